/-! fields -/
def zgI (h : zHp) (a c k : Nat) : Option Int32 := match h.1 a with
  | some (.inr q) => if q.1 = c then (match q.2[k]? with
    | some (.int v) => some v
    | _ => none) else none
  | _ => none
def zgR (h : zHp) (a c k : Nat) : Option Nat := match h.1 a with
  | some (.inr q) => if q.1 = c then (match q.2[k]? with
    | some (.ref v) => some v
    | _ => none) else none
  | _ => none
def zpV (h : zHp) (a c k : Nat) (v : Value) : Option zHp := match h.1 a with
  | some (.inr q) => if q.1 = c ∧ k < q.2.length then some (zwr h a (.inr (c, q.2.set k v))) else none
  | _ => none
theorem zgI_of {h : zHp} {a c k : Nat} {v : Int32} (hg : zgI h a c k = some v) : ∃ fs : List Value, h.1 a = some (.inr (c, fs)) ∧ fs[k]? = some (.int v) := by
  unfold zgI at hg
  split at hg
  · rename_i q hq
    obtain ⟨c', fs⟩ := q
    split at hg
    · rename_i hc
      have hc : c' = c := hc
      subst hc
      split at hg
      · rename_i w hw
        cases hg
        exact ⟨fs, hq, hw⟩
      · cases hg
    · cases hg
  · cases hg
theorem zgR_of {h : zHp} {a c k : Nat} {v : Nat} (hg : zgR h a c k = some v) : ∃ fs : List Value, h.1 a = some (.inr (c, fs)) ∧ fs[k]? = some (.ref v) := by
  unfold zgR at hg
  split at hg
  · rename_i q hq
    obtain ⟨c', fs⟩ := q
    split at hg
    · rename_i hc
      have hc : c' = c := hc
      subst hc
      split at hg
      · rename_i w hw
        cases hg
        exact ⟨fs, hq, hw⟩
      · cases hg
    · cases hg
  · cases hg
theorem zpV_of {h h1 : zHp} {a c k : Nat} {v : Value} (hg : zpV h a c k v = some h1) : ∃ fs : List Value, h.1 a = some (.inr (c, fs)) ∧ k < fs.length ∧ h1 = zwr h a (.inr (c, fs.set k v)) := by
  unfold zpV at hg
  split at hg
  · rename_i q hq
    obtain ⟨c', fs⟩ := q
    split at hg
    · rename_i hc
      obtain ⟨hc, hl⟩ := hc
      have hc : c' = c := hc
      subst hc
      cases hg
      exact ⟨fs, hq, hl, rfl⟩
    · cases hg
  · cases hg
def zCl (ci : Nat) (C : String) (T : u_T) (N : Nat) (ty : Nat → FieldType) : Prop := vwCl[ci]? = some (C, T, N) ∧ (∀ w ∈ u_ws C T N, w ∈ zT) ∧ (∀ k, k < N → parseFieldDescriptor (T k).2.2.1 = some (ty k)) ∧ (∀ a, a < N → ∀ b, b < N → a ≠ b → (T a).2.1 ≠ (T b).2.1)
/-! arrays -/
def zaI (t : Nat) (h : zHp) (a : Nat) (i : Int32) : Option Int32 := match h.1 a with
  | some (.inl (t', n, .inl f)) => if t' = t ∧ ¬ (i < 0 ∨ n ≤ i.toNatClampNeg) then some (f i.toNatClampNeg) else none
  | _ => none
def zaL (h : zHp) (a : Nat) (i : Int32) : Option Int64 := match h.1 a with
  | some (.inl (t', n, .inr (.inl f))) => if t' = 3 ∧ ¬ (i < 0 ∨ n ≤ i.toNatClampNeg) then some (f i.toNatClampNeg) else none
  | _ => none
def zaA (t : Nat) (h : zHp) (a : Nat) (i : Int32) : Option Nat := match h.1 a with
  | some (.inl (t', n, .inr (.inr (.inr (.inr f))))) => if t' = t ∧ ¬ (i < 0 ∨ n ≤ i.toNatClampNeg) then f i.toNatClampNeg else none
  | _ => none
def znar (t : Nat) (x : Int32) : Int32 := if t = 1 then vp_nar .byte x else if t = 2 then vp_nar .boolean x else x
def zsI (t : Nat) (h : zHp) (a : Nat) (i x : Int32) : Option zHp := match h.1 a with
  | some (.inl (t', n, .inl f)) => if t' = t ∧ ¬ (i < 0 ∨ n ≤ i.toNatClampNeg) then some (zwr h a (.inl (t, n, .inl (upd f i.toNatClampNeg (znar t x))))) else none
  | _ => none
def zsL (h : zHp) (a : Nat) (i : Int32) (x : Int64) : Option zHp := match h.1 a with
  | some (.inl (t', n, .inr (.inl f))) => if t' = 3 ∧ ¬ (i < 0 ∨ n ≤ i.toNatClampNeg) then some (zwr h a (.inl (3, n, .inr (.inl (vp_updL f i.toNatClampNeg x))))) else none
  | _ => none
def zln (h : zHp) (a : Nat) : Option Int32 := match h.1 a with
  | some (.inl (t', n, _)) => if t' < 6 then some (Int32.ofNat n) else none
  | _ => none
def zcp (h : zHp) (a : Nat) (sp : Int32) (b : Nat) (dp n : Int32) : Option zHp := match h.1 a, h.1 b with
  | some (.inl (0, na, .inl f)), some (.inl (0, nb, .inl g)) => if ¬ sp < 0 ∧ ¬ dp < 0 ∧ ¬ n < 0 ∧ sp.toNatClampNeg + n.toNatClampNeg ≤ na ∧ dp.toNatClampNeg + n.toNatClampNeg ≤ nb then some (zwr h b (.inl (0, nb, .inl (va_cpy f g sp.toNatClampNeg dp.toNatClampNeg n.toNatClampNeg)))) else none
  | _, _ => none
theorem zaI_of {t : Nat} {h : zHp} {a : Nat} {i v : Int32} (hg : zaI t h a i = some v) : ∃ (n : Nat) (f : Nat → Int32), h.1 a = some (.inl (t, n, .inl f)) ∧ vp_in i n ∧ v = f i.toNatClampNeg := by
  unfold zaI at hg
  split at hg
  · rename_i t' n f hq
    split at hg
    · rename_i hc
      obtain ⟨hc, hl⟩ := hc
      subst hc
      cases hg
      exact ⟨n, f, hq, hl, rfl⟩
    · cases hg
  · cases hg
theorem zaL_of {h : zHp} {a : Nat} {i : Int32} {v : Int64} (hg : zaL h a i = some v) : ∃ (n : Nat) (f : Nat → Int64), h.1 a = some (.inl (3, n, .inr (.inl f))) ∧ vp_in i n ∧ v = f i.toNatClampNeg := by
  unfold zaL at hg
  split at hg
  · rename_i t' n f hq
    split at hg
    · rename_i hc
      obtain ⟨hc, hl⟩ := hc
      subst hc
      cases hg
      exact ⟨n, f, hq, hl, rfl⟩
    · cases hg
  · cases hg
theorem zaA_of {t : Nat} {h : zHp} {a : Nat} {i : Int32} {v : Nat} (hg : zaA t h a i = some v) : ∃ (n : Nat) (f : Nat → Option Nat), h.1 a = some (.inl (t, n, .inr (.inr (.inr (.inr f))))) ∧ vp_in i n ∧ f i.toNatClampNeg = some v := by
  unfold zaA at hg
  split at hg
  · rename_i t' n f hq
    split at hg
    · rename_i hc
      obtain ⟨hc, hl⟩ := hc
      subst hc
      exact ⟨n, f, hq, hl, hg⟩
    · cases hg
  · cases hg
theorem zsI_of {t : Nat} {h h1 : zHp} {a : Nat} {i x : Int32} (hg : zsI t h a i x = some h1) : ∃ (n : Nat) (f : Nat → Int32), h.1 a = some (.inl (t, n, .inl f)) ∧ vp_in i n ∧ h1 = zwr h a (.inl (t, n, .inl (upd f i.toNatClampNeg (znar t x)))) := by
  unfold zsI at hg
  split at hg
  · rename_i t' n f hq
    split at hg
    · rename_i hc
      obtain ⟨hc, hl⟩ := hc
      subst hc
      cases hg
      exact ⟨n, f, hq, hl, rfl⟩
    · cases hg
  · cases hg
theorem zsL_of {h h1 : zHp} {a : Nat} {i : Int32} {x : Int64} (hg : zsL h a i x = some h1) : ∃ (n : Nat) (f : Nat → Int64), h.1 a = some (.inl (3, n, .inr (.inl f))) ∧ vp_in i n ∧ h1 = zwr h a (.inl (3, n, .inr (.inl (vp_updL f i.toNatClampNeg x)))) := by
  unfold zsL at hg
  split at hg
  · rename_i t' n f hq
    split at hg
    · rename_i hc
      obtain ⟨hc, hl⟩ := hc
      subst hc
      cases hg
      exact ⟨n, f, hq, hl, rfl⟩
    · cases hg
  · cases hg
theorem zln_of {h : zHp} {a : Nat} {v : Int32} (hg : zln h a = some v) : ∃ (t : Nat) (x : vp_A), h.1 a = some (.inl (t, x)) ∧ t < 6 ∧ Int32.ofNat x.1 = v := by
  unfold zln at hg
  split at hg
  · rename_i t' n f hq
    split at hg
    · rename_i hc
      cases hg
      exact ⟨t', (n, f), hq, hc, rfl⟩
    · cases hg
  · cases hg
/-- the receiver is of that class -/
def zcv {α : Type} (ci b : Nat) (h : zHp) (c : Option α) : Option α := match h.1 b with
  | some (.inr q) => if q.1 = ci then c else none
  | _ => none
theorem zcv_of {α : Type} {ci b : Nat} {h : zHp} {c : Option α} {r : α} (hg : zcv ci b h c = some r) : (∃ fs : List Value, h.1 b = some (.inr (ci, fs))) ∧ c = some r := by
  unfold zcv at hg
  split at hg
  · rename_i q hq
    obtain ⟨c', fs⟩ := q
    split at hg
    · rename_i hc
      have hc : c' = ci := hc
      subst hc
      exact ⟨⟨fs, hq⟩, hg⟩
    · cases hg
  · cases hg
def zzr (v : Int32) (h : zHp) : Option (Int32 × zHp) := if v = 0 ∨ v = 1 then some (v, h) else none
def znO (h : zHp) (ci : Nat) (fs : List Value) : Option (Nat × zHp) := some (h.2, znw h (.inr (ci, fs)))
def znA (h : zHp) (t : Nat) (x : vp_A) : Option (Nat × zHp) := some (h.2, znw h (.inl (t, x)))
/-- a method's contract -/
def zCt (y : MethodName) (cw : Cond) (fr lo mc ms : Nat) (As : List Value) (h : zHp) (rv : Option Value) (h' : zHp) : Prop :=
  ∀ (l : Launch) (g : zGl), Met l y (cw :: zT) { frames := fr, cells := mc, slots := ms, locals := lo } (zPc g As h) (zQc g rv h') mc ms (fun q => g.2.2.1 ≤ q)
def zKe (X : zCx) (rv : Option Value) (h' : zHp) : Prop := match X with
  | (_, _, _, _, s, _, args, _, _, _, g, Qc) => ∀ t : State, zHR g.1 g.2.1 g.2.2.1 h' t.heap → va_F (fun q => g.2.2.1 ≤ q) s t → Qc args s (.returned rv) t
def zKi (X : zCx) (r : Int32) (h' : zHp) : Prop := zKe X (some (.int r)) h'
def zKl (X : zCx) (r : Int64) (h' : zHp) : Prop := zKe X (some (.long r)) h'
def zKr (X : zCx) (r : Nat) (h' : zHp) : Prop := zKe X (some (.ref r)) h'
def zKv (X : zCx) (_ : Unit) (h' : zHp) : Prop := zKe X none h'
theorem zct_of (M : zMt) (y : MethodName) (hy : plainName y.cls = true) (h1 : M.1 = y.cls) (h2 : M.2.2.2.2.2.2.1 = y.name) (As : List Value) (h : zHp) {α : Type} {c : Option (α × zHp)} (hlen : (lg_sl As).length ≤ M.2.2.1) (rv : α → Option Value)
    (body : ∀ X : zCx, zG X M (0, 0) 0 (lv_args 0 As) [] h c (fun r h' => zKe X (rv r) h')) : ∀ (r : α) (h' : zHp), c = some (r, h') → zCt y (.code y M.2.1 M.2.2.1 M.2.2.2.2.2.1) M.2.2.2.1 M.2.2.2.2.1 M.2.2.2.2.2.2.2.1 M.2.2.2.2.2.2.2.2 As h (rv r) h' := by
  intro r h' hc l g
  refine Met.ofW (cc := M.2.1) (maxL := M.2.2.1) (ret := M.2.2.2.2.2.1) hy rfl ?_
  intro p e s m args below meth c0 s₁ B hml hP
  obtain ⟨rfl, hR, hE⟩ := hP
  have hown : s.vm.findClass y.cls = some m.cls := findClass_of_methodNamed B.named
  have hts := atoms_spec B.pre
  have hl := lv_entry As (n := M.2.2.1) hlen
  rw [lg_entry_eq]
  exact body (p, l, e, _, s, m, As.toArray, below, meth, c0, g, zQc g (rv r) h') r h' hc (fun t hr hf => ⟨rfl, hr, hf⟩) ⟨B.exec, B.bytes, hml, by rw [h1]; exact hown, fun w hw => hts w (List.mem_cons_of_mem _ hw), hE, B.notSynchronized, B.returns, by rw [h2]; exact (name_of_methodNamed B.named B.method).1, rfl, rfl, rfl, rfl⟩ _ s.heap [] hl hR va_S.rf
/-! words of a call -/
def zCw (own : String) (i : Nat) (y : MethodName) (bytes : ByteArray) (maxL : Nat) (ret : Option FieldType) (n : Nat) : Prop :=
  Cond.methodLink own i y ∈ zT ∧ Cond.initialized y.cls ∈ zT ∧ Cond.code y bytes maxL ret ∈ zT ∧ y.cls ≠ "java/lang/invoke/MethodHandle" ∧ y.cls ≠ "java/lang/invoke/VarHandle" ∧ (parseMethodDescriptor y.desc).map (fun d => d.parameters.length) = some n
theorem zCw.good {own : String} {i : Nat} {y : MethodName} {bytes : ByteArray} {maxL : Nat} {ret : Option FieldType} {n : Nat} (h : zCw own i y bytes maxL ret n) : GoodIn zT (Cond.code y bytes maxL ret :: zT) := by
  intro w hw
  rcases List.mem_cons.mp hw with rfl | hw
  · exact zT_good _ h.2.2.1
  · exact zT_good _ hw
theorem zCw.B {own : String} {i : Nat} {y : MethodName} {bytes : ByteArray} {maxL : Nat} {ret : Option FieldType} {n fr lo mc ms : Nat} {R : Room} {s : State} {args : Array Value} (h : zCw own i y bytes maxL ret n) (ht : ∀ w ∈ zT, w.before args s = true) (hf : fr + 1 ≤ R.frames) (hlo : 8 + (maxL + 11) + lo ≤ R.locals) :
    CallB R s args own i y bytes maxL ret (Cond.code y bytes maxL ret :: zT) { frames := fr, cells := mc, slots := ms, locals := lo } mc ms n :=
  callB_of n ht h.good rfl rfl rfl (ht _ h.2.1) (ht _ h.1) ⟨h.2.2.2.1, h.2.2.2.2.1, h.2.2.2.2.2⟩ ⟨hf, hlo⟩
section ZH
variable {α β ε ρ σ : Type} {X : zCx} {M : zMt} {cs : Nat × Nat} {pc pc' : Nat} {lv : List (Nat × Value)} {st : List Value} {h : zHp} {c : Option (α × zHp)} {K : α → zHp → Prop}
theorem zS_lt {A : Nat → Prop} {H0 H : Heap} {locs : List Loc} (h : va_S A H0 H locs) : H0.size ≤ H.size := h.1
theorem zPre {g : zGl} {As : List Value} {s : State} {H : Heap} {locs : List Loc} (hE : zEn g s) (hR : zHR g.1 g.2.1 g.2.2.1 h H) (hS : va_S (fun q => g.2.2.1 ≤ q) s.heap H locs) : PreS s H (zPc g As h) As :=
  ⟨zPc.blind g As h, fun U hU hW => ⟨rfl, by rw [hU]; exact hR, hE.go hW (by rw [hU]; exact hS.1) (fun q hq => by rw [hU]; exact hS.2.1 q (Nat.lt_of_lt_of_le hq hE.2.2.2) (Nat.not_le.mpr hq))⟩⟩
/-- behind a call -/
theorem zAft {p : Program} {l : Launch} {e : Env} {R : Room} {s : State} {m : MethodId} {args : Array Value} {below : List Frame} {meth : Method} {cd : Code} {H : Heap} {locs : List Loc} {mc ms : Nat} {g : zGl} {rv : Option Value} {h1 : zHp} {Q : State → Prop} {ls : Array Slot} {st0 rest : List Value} {a : Array Value}
    (hr : va_Run p l e R s m args below meth cd H locs cs.1 cs.2 mc ms (F0 m pc ls st0) rest (zQc g rv h1 a) (fun q => g.2.2.1 ≤ q)) (hS : va_S (fun q => g.2.2.1 ≤ q) s.heap H locs)
    (k : ∀ (H1 : Heap) (locs1 : List Loc), zHR g.1 g.2.1 g.2.2.1 h1 H1 → va_S (fun q => g.2.2.1 ≤ q) s.heap H1 locs1 → W p l e R s m args below meth cd H1 locs1 (cs.1 + mc) (cs.2 + ms) Q (F0 m (pc + 3) ls (rv.toList ++ rest))) : W p l e R s m args below meth cd H locs cs.1 cs.2 Q (F0 m pc ls st0) := by
  intro T hT Xs
  obtain ⟨v, st₀, t, T', L, h0, X', hL, e1, e2, ⟨hv, hR1, hz, hk⟩, stp⟩ := hr T hT Xs
  cases hv
  rw [h0] at hz hk
  obtain ⟨t2, a1, b1⟩ := k T'.heap (locs ++ L) (by rw [e1]; exact hR1) ⟨Nat.le_trans hS.1 (by rw [e1]; exact hz), fun q q1 q2 => by rw [e1, hk q (Nat.lt_of_lt_of_le q1 hS.1) q2]; exact hS.2.1 q q1 q2, fun q hq => by
      rcases List.mem_append.mp hq with z | z
      · exact hS.2.2 q z
      · exact hL q z⟩ T' rfl X'
  exact ⟨t2, stp t2 a1, b1⟩
theorem zg_cV {i n ci fr lo mc ms maxL : Nat} {y : MethodName} {bytes : ByteArray} {ret : Option FieldType} {b : Nat} {As rest : List Value} {cF : Option (β × zHp)} {k : β → zHp → Option (α × zHp)} {rv : β → Option Value} {C : String} {T : u_T} {N : Nat} {ty : Nat → FieldType} (cs' : Nat × Nat)
    (hd : zDc M pc (.invokevirtual i) 3 pc') (hC : zCl ci C T N ty) (hyc : y.cls = C) (hw : zCw M.1 i y bytes maxL ret n) (hi : Cond.instanceMethod y ∈ zT) (hs : Cond.selects C y y ∈ zT) (hst : st = As.reverse ++ .ref b :: rest) (hn : As.length = n) (hcat : (rest.map fun v => v.category).sum ≤ 8)
    (hf : fr + 1 ≤ M.2.2.2.1) (hlo : 8 + (maxL + 11) + lo ≤ M.2.2.2.2.1) (hcs : cs.1 + mc ≤ M.2.2.2.2.2.2.2.1 ∧ cs.2 + ms ≤ M.2.2.2.2.2.2.2.2) (hcs' : (cs.1 + mc, cs.2 + ms) = cs')
    (hct : ∀ (r : β) (h' : zHp), cF = some (r, h') → zCt y (.code y bytes maxL ret) fr lo mc ms (.ref b :: As) h (rv r) h')
    (kk : ∀ (r : β) (h1 : zHp), zG X M cs' pc' lv ((rv r).toList ++ rest) h1 (k r h1) K) : zG X M cs pc lv st h (zbd (zcv ci b h cF) k) K := by
  obtain ⟨hd, rfl⟩ := hd
  subst hcs' hst
  obtain ⟨p, l, e, R, s, m, args, below, meth, cd, g, Qc⟩ := X
  intro a h' hc hK hok ls H locs hv hR hS
  cases hq : zcv ci b h cF with
  | none => rw [hq] at hc; cases hc
  | some q =>
    obtain ⟨r, h1⟩ := q
    rw [hq] at hc
    obtain ⟨⟨fs, hb⟩, hcf⟩ := zcv_of hq
    obtain ⟨hx, hbc, hml, hown, hts, hE, hlk, hret, hnm, hRf, hRl, hRc, hRs⟩ := id hok
    have hpre := zPre (As := .ref b :: As) hE hR hS
    obtain ⟨r', hr', cell, g1, g2, g3, -⟩ := (hR.1 b _ hb).2
    have hr'' : r' = (C, T, N) := Option.some.inj (hr'.symm.trans hC.1)
    subst hr''
    refine zAft (rv := rv r) (h1 := h1) (va_runV (C := C) (b := b) (As := As) (rest := rest) (Ts := zT) ⟨hx, hbc, hml, hown, hts⟩ (hct r h1 hcf l g) ⟨hw.B hts (by rw [hRf]; exact hf) (by rw [hRl]; exact hlo), hts _ hi, hts _ hs⟩ ⟨hpre.1, ⟨cell, g1, by rw [g3]; rfl, by rw [g2]; exact (hE.1.1 ci _ hC.1).2.1⟩, hpre.2⟩ rfl hn hv.1 rfl (lv_room hcat) hd ⟨by rw [hRc]; exact hcs.1, by rw [hRs]; exact hcs.2⟩) hS (fun H1 locs1 hR1 hS1 => ?_)
    exact kk r h1 a h' hc hK hok ls H1 locs1 hv hR1 hS1
theorem zg_cS {i n fr lo mc ms maxL : Nat} {y : MethodName} {bytes : ByteArray} {ret : Option FieldType} {As rest : List Value} {cF : Option (β × zHp)} {k : β → zHp → Option (α × zHp)} {rv : β → Option Value} (cs' : Nat × Nat)
    (hd : zDc M pc (.invokestatic i) 3 pc') (hw : zCw M.1 i y bytes maxL ret n) (hs : Cond.static y ∈ zT) (hst : st = As.reverse ++ rest) (hn : As.length = n) (hcat : (rest.map fun v => v.category).sum ≤ 8)
    (hf : fr + 1 ≤ M.2.2.2.1) (hlo : 8 + (maxL + 11) + lo ≤ M.2.2.2.2.1) (hcs : cs.1 + mc ≤ M.2.2.2.2.2.2.2.1 ∧ cs.2 + ms ≤ M.2.2.2.2.2.2.2.2) (hcs' : (cs.1 + mc, cs.2 + ms) = cs')
    (hct : ∀ (r : β) (h' : zHp), cF = some (r, h') → zCt y (.code y bytes maxL ret) fr lo mc ms As h (rv r) h')
    (kk : ∀ (r : β) (h1 : zHp), zG X M cs' pc' lv ((rv r).toList ++ rest) h1 (k r h1) K) : zG X M cs pc lv st h (zbd cF k) K := by
  obtain ⟨hd, rfl⟩ := hd
  subst hcs' hst
  obtain ⟨p, l, e, R, s, m, args, below, meth, cd, g, Qc⟩ := X
  intro a h' hc hK hok ls H locs hv hR hS
  cases hq : cF with
  | none => rw [hq] at hc; cases hc
  | some q =>
    obtain ⟨r, h1⟩ := q
    rw [hq] at hc
    obtain ⟨hx, hbc, hml, hown, hts, hE, hlk, hret, hnm, hRf, hRl, hRc, hRs⟩ := id hok
    refine zAft (rv := rv r) (h1 := h1) (va_runS (As := As) (rest := rest) (Ts := zT) ⟨hx, hbc, hml, hown, hts⟩ (hct r h1 hq l g) ⟨hw.B hts (by rw [hRf]; exact hf) (by rw [hRl]; exact hlo), hts _ hs⟩ (zPre (As := As) hE hR hS) rfl hn hv.1 rfl (lv_room hcat) hd ⟨by rw [hRc]; exact hcs.1, by rw [hRs]; exact hcs.2⟩) hS (fun H1 locs1 hR1 hS1 => ?_)
    exact kk r h1 a h' hc hK hok ls H1 locs1 hv hR1 hS1
theorem zg_cI {i n fr lo mc ms maxL : Nat} {y : MethodName} {bytes : ByteArray} {b : Nat} {As rest : List Value} {cF : Option (Unit × zHp)} {k : Unit → zHp → Option (α × zHp)} (cs' : Nat × Nat)
    (hd : zDc M pc (.invokespecial i) 3 pc') (hw : zCw M.1 i y bytes maxL none n) (hi : Cond.instanceMethod y ∈ zT) (hy : y.name = "<init>") (hst : st = As.reverse ++ .ref b :: rest) (hn : As.length = n) (hcat : (rest.map fun v => v.category).sum ≤ 8)
    (hf : fr + 1 ≤ M.2.2.2.1) (hlo : 8 + (maxL + 11) + lo ≤ M.2.2.2.2.1) (hcs : cs.1 + mc ≤ M.2.2.2.2.2.2.2.1 ∧ cs.2 + ms ≤ M.2.2.2.2.2.2.2.2) (hcs' : (cs.1 + mc, cs.2 + ms) = cs')
    (hct : ∀ (r : Unit) (h' : zHp), cF = some (r, h') → zCt y (.code y bytes maxL none) fr lo mc ms (.ref b :: As) h none h')
    (kk : ∀ (r : Unit) (h1 : zHp), zG X M cs' pc' lv rest h1 (k r h1) K) : zG X M cs pc lv st h (zbd cF k) K := by
  obtain ⟨hd, rfl⟩ := hd
  subst hcs' hst
  obtain ⟨p, l, e, R, s, m, args, below, meth, cd, g, Qc⟩ := X
  intro a h' hc hK hok ls H locs hv hR hS
  cases hq : cF with
  | none => rw [hq] at hc; cases hc
  | some q =>
    obtain ⟨r, h1⟩ := q
    rw [hq] at hc
    obtain ⟨hx, hbc, hml, hown, hts, hE, hlk, hret, hnm, hRf, hRl, hRc, hRs⟩ := id hok
    refine zAft (rv := none) (h1 := h1) (va_runI (b := b) (As := As) (rest := rest) (Ts := zT) ⟨hx, hbc, hml, hown, hts⟩ (hct r h1 hq l g) ⟨hw.B hts (by rw [hRf]; exact hf) (by rw [hRl]; exact hlo), hy, hts _ hi⟩ (zPre (As := .ref b :: As) hE hR hS) rfl hn hv.1 rfl (lv_room hcat) hd ⟨by rw [hRc]; exact hcs.1, by rw [hRs]; exact hcs.2⟩) hS (fun H1 locs1 hR1 hS1 => ?_)
    exact kk r h1 a h' hc hK hok ls H1 locs1 hv hR1 hS1
theorem zg_getI {ci k i : Nat} {C : String} {T : u_T} {N : Nat} {ty : Nat → FieldType} {b : Nat} {f : Int32 → Option (α × zHp)} (hd : zDc M pc (.getfield i) 3 pc') (hC : zCl ci C T N ty) (hk : k < N) (hw : Cond.fieldLink M.1 i (T k).1 (T k).2.1 (T k).2.2.1 ∈ zT) (kk : ∀ v : Int32, zG X M cs pc' lv (.int v :: st) h (f v) K) : zG X M cs pc lv (.ref b :: st) h (zob (zgI h b ci k) f) K := by
  obtain ⟨hd, rfl⟩ := hd
  obtain ⟨p, l, e, R, s, m, args, below, meth, cd, g, Qc⟩ := X
  intro a h' hc hK hok ls H locs hv hR hS
  cases hq : zgI h b ci k with
  | none => rw [hq] at hc; cases hc
  | some v =>
    rw [hq] at hc
    obtain ⟨fs, hb, hv1⟩ := zgI_of hq
    obtain ⟨hx, hbc, hml, hown, hts, hE, -⟩ := id hok
    exact va_get (ws := [(b, .inr (ci, fs))]) (D := g.1) hx hbc hts hC.2.1 hown hE.1 (fun j q hj => by cases j with | zero => cases hj; exact (hR.1 b _ hb).2 | succ j => cases hj) 0 rfl hC.1 k hk (hts _ hw) (fun _ z => z) hv1 hd (kk v a h' hc hK hok ls H locs hv hR hS)
theorem zg_getR {ci k i : Nat} {C : String} {T : u_T} {N : Nat} {ty : Nat → FieldType} {b : Nat} {f : Nat → Option (α × zHp)} (hd : zDc M pc (.getfield i) 3 pc') (hC : zCl ci C T N ty) (hk : k < N) (hw : Cond.fieldLink M.1 i (T k).1 (T k).2.1 (T k).2.2.1 ∈ zT) (kk : ∀ v : Nat, zG X M cs pc' lv (.ref v :: st) h (f v) K) : zG X M cs pc lv (.ref b :: st) h (zob (zgR h b ci k) f) K := by
  obtain ⟨hd, rfl⟩ := hd
  obtain ⟨p, l, e, R, s, m, args, below, meth, cd, g, Qc⟩ := X
  intro a h' hc hK hok ls H locs hv hR hS
  cases hq : zgR h b ci k with
  | none => rw [hq] at hc; cases hc
  | some v =>
    rw [hq] at hc
    obtain ⟨fs, hb, hv1⟩ := zgR_of hq
    obtain ⟨hx, hbc, hml, hown, hts, hE, -⟩ := id hok
    exact va_get (ws := [(b, .inr (ci, fs))]) (D := g.1) hx hbc hts hC.2.1 hown hE.1 (fun j q hj => by cases j with | zero => cases hj; exact (hR.1 b _ hb).2 | succ j => cases hj) 0 rfl hC.1 k hk (hts _ hw) (fun _ z => z) hv1 hd (kk v a h' hc hK hok ls H locs hv hR hS)
theorem zg_putV {ci k i : Nat} {C : String} {T : u_T} {N : Nat} {ty : Nat → FieldType} {b : Nat} {v : Value} {f : zHp → Option (α × zHp)} (hd : zDc M pc (.putfield i) 3 pc') (hC : zCl ci C T N ty) (hk : k < N) (hw : Cond.fieldLink M.1 i (T k).1 (T k).2.1 (T k).2.2.1 ∈ zT) (hfin : (T k).2.2.2 = false) (hn : narrow (ty k) v = v) (hfit : fits (ty k) v = true) (kk : ∀ h1 : zHp, zG X M cs pc' lv st h1 (f h1) K) : zG X M cs pc lv (v :: .ref b :: st) h (zob (zpV h b ci k v) f) K := by
  obtain ⟨hd, rfl⟩ := hd
  obtain ⟨p, l, e, R, s, m, args, below, meth, cd, g, Qc⟩ := X
  intro a h' hc hK hok ls H locs hv hR hS
  cases hq : zpV h b ci k v with
  | none => rw [hq] at hc; cases hc
  | some h1 =>
    rw [hq] at hc
    obtain ⟨fs, hb, hl, rfl⟩ := zpV_of hq
    obtain ⟨hx, hbc, hml, hown, hts, hE, -⟩ := id hok
    have hap := va_apart (own := M.1) hts hC.2.1 ty hC.2.2.1 hC.2.2.2 hE.1 hC.1
    obtain ⟨hn0, r, hr1, cell, q1, q2, q3, q4⟩ := hR.1 b _ hb
    have hr : r = (C, T, N) := Option.some.inj (hr1.symm.trans hC.1)
    subst hr
    obtain ⟨hSl, hfc, kC, hkC, hkind⟩ := hE.1.1 ci _ hC.1
    obtain ⟨cf, kf, fi, fd, hi, hsl⟩ := hSl k hk
    have hlay := hts _ (hC.2.1 _ (u_in_lay hk))
    unfold u_lay at hlay
    rw [if_neg (by rw [hfin]; decide)] at hlay
    have hst := (u_facts hfc hkC (u_lays hts hC.2.1 hk) hi).1
    have h6 := u_store hfc hkC hkind hlay hi (hC.2.2.1 k hk) hn hfit
    refine W.putK hx hbc (f := fd) ⟨hown, hts _ hw, ⟨_, _, _, hi⟩, hst⟩ (by rw [q2]; exact h6) q1 q3 (by rw [hsl]; exact k2_hasslot (q4 k hk)) rfl rfl hd fun H' e1 e2 e3 => ?_
    rw [hsl] at e1 ⊢
    exact kk _ a h' hc hK hok ls H' _ hv (hR.wr hb ⟨_, hC.1, t_OB.to (V := updV (vp_V fs) k v) ⟨_, e1, q2, q3, t_set q4 hap hk v⟩ (fun j _ => vp_updV_set hl v j)⟩ e2 e3) (hS.put e2 e3 hn0)
theorem zg_putF {ci k i : Nat} {C : String} {T : u_T} {N : Nat} {ty : Nat → FieldType} {b : Nat} {v : Value} {f : zHp → Option (α × zHp)} (hd : zDc M pc (.putfield i) 3 pc') (hC : zCl ci C T N ty) (hk : k < N) (hw : Cond.fieldLink M.1 i (T k).1 (T k).2.1 (T k).2.2.1 ∈ zT) (hfin : (T k).2.2.2 = true) (hown0 : (T k).1 = M.1) (hini : M.2.2.2.2.2.2.1 = "<init>") (hn : narrow (ty k) v = v) (hfit : fits (ty k) v = true) (kk : ∀ h1 : zHp, zG X M cs pc' lv st h1 (f h1) K) : zG X M cs pc lv (v :: .ref b :: st) h (zob (zpV h b ci k v) f) K := by
  obtain ⟨hd, rfl⟩ := hd
  obtain ⟨p, l, e, R, s, m, args, below, meth, cd, g, Qc⟩ := X
  intro a h' hc hK hok ls H locs hv hR hS
  cases hq : zpV h b ci k v with
  | none => rw [hq] at hc; cases hc
  | some h1 =>
    rw [hq] at hc
    obtain ⟨fs, hb, hl, rfl⟩ := zpV_of hq
    obtain ⟨hx, hbc, hml, hown, hts, hE, hlk, hret, hnm, -⟩ := id hok
    have hap := va_apart (own := M.1) hts hC.2.1 ty hC.2.2.1 hC.2.2.2 hE.1 hC.1
    obtain ⟨hn0, r, hr1, cell, q1, q2, q3, q4⟩ := hR.1 b _ hb
    have hr : r = (C, T, N) := Option.some.inj (hr1.symm.trans hC.1)
    subst hr
    obtain ⟨hSl, hfc, kC, hkC, hkind⟩ := hE.1.1 ci _ hC.1
    obtain ⟨cf, kf, fi, fd, hi, hsl⟩ := hSl k hk
    have hlay := hts _ (hC.2.1 _ (u_in_lay hk))
    unfold u_lay at hlay
    rw [if_pos hfin] at hlay
    have hst := (u_facts hfc hkC (u_lays hts hC.2.1 hk) hi).1
    have hcf : m.cls = cf := by
      obtain ⟨_, _, c', _, _, _, -, -, hf', -, -, -, hown2, -⟩ := Cond.laysFinal_spec hlay
      have e1 : c' = cf := by have := hi.symm.trans hf'; simp at this; exact this.1.symm
      rw [hown0] at hown2
      rw [← e1]; exact Option.some.inj (hown.symm.trans hown2)
    have h6 := u_fits hfc hkC hkind (Or.inr hlay) hi (hC.2.2.1 k hk) hn hfit
    refine W.putFinK hx hbc hown (hts _ hw) hi hst hcf (hnm.trans hini) (by rw [q2]; exact h6) q1 q3 (by rw [hsl]; exact k2_hasslot (q4 k hk)) rfl rfl hd fun H' e1 e2 e3 => ?_
    rw [hsl] at e1 ⊢
    exact kk _ a h' hc hK hok ls H' _ hv (hR.wr hb ⟨_, hC.1, t_OB.to (V := updV (vp_V fs) k v) ⟨_, e1, q2, q3, t_set q4 hap hk v⟩ (fun j _ => vp_updV_set hl v j)⟩ e2 e3) (hS.put e2 e3 hn0)
theorem zg_ald0 {b : Nat} {j : Int32} {f : Int32 → Option (α × zHp)} (hd : zDc M pc .iaload 1 pc') (kk : ∀ v : Int32, zG X M cs pc' lv (.int v :: st) h (f v) K) : zG X M cs pc lv (.int j :: .ref b :: st) h (zob (zaI 0 h b j) f) K := by
  obtain ⟨hd, rfl⟩ := hd
  obtain ⟨p, l, e, R, s, m, args, below, meth, cd, g, Qc⟩ := X
  intro a h' hc hK hok ls H locs hv hR hS
  cases hq : zaI 0 h b j with
  | none => rw [hq] at hc; cases hc
  | some v =>
    rw [hq] at hc
    obtain ⟨n, ff, hb, hin, rfl⟩ := zaI_of hq
    obtain ⟨hx, hbc, hml, hown, hts, hE, -⟩ := id hok
    exact va_iald (ws := [(b, .inl (g.2.1 0, n, .inl ff))]) (D := g.1) (cl := vwCl) hx hbc hE.1 (fun j q hj => by cases j with | zero => cases hj; exact (hR.1 b _ hb).2 | succ j => cases hj) 0 0 rfl rfl hin hd (kk _ a h' hc hK hok ls H locs hv hR hS)
theorem zg_ald1 {b : Nat} {j : Int32} {f : Int32 → Option (α × zHp)} (hd : zDc M pc .baload 1 pc') (kk : ∀ v : Int32, zG X M cs pc' lv (.int v :: st) h (f v) K) : zG X M cs pc lv (.int j :: .ref b :: st) h (zob (zaI 1 h b j) f) K := by
  obtain ⟨hd, rfl⟩ := hd
  obtain ⟨p, l, e, R, s, m, args, below, meth, cd, g, Qc⟩ := X
  intro a h' hc hK hok ls H locs hv hR hS
  cases hq : zaI 1 h b j with
  | none => rw [hq] at hc; cases hc
  | some v =>
    rw [hq] at hc
    obtain ⟨n, ff, hb, hin, rfl⟩ := zaI_of hq
    obtain ⟨hx, hbc, hml, hown, hts, hE, -⟩ := id hok
    exact va_bald (ws := [(b, .inl (g.2.1 1, n, .inl ff))]) (D := g.1) (cl := vwCl) hx hbc hE.1 (fun j q hj => by cases j with | zero => cases hj; exact (hR.1 b _ hb).2 | succ j => cases hj) 0 1 rfl rfl hin hd (kk _ a h' hc hK hok ls H locs hv hR hS)
theorem zg_ald2 {b : Nat} {j : Int32} {f : Int32 → Option (α × zHp)} (hd : zDc M pc .baload 1 pc') (kk : ∀ v : Int32, zG X M cs pc' lv (.int v :: st) h (f v) K) : zG X M cs pc lv (.int j :: .ref b :: st) h (zob (zaI 2 h b j) f) K := by
  obtain ⟨hd, rfl⟩ := hd
  obtain ⟨p, l, e, R, s, m, args, below, meth, cd, g, Qc⟩ := X
  intro a h' hc hK hok ls H locs hv hR hS
  cases hq : zaI 2 h b j with
  | none => rw [hq] at hc; cases hc
  | some v =>
    rw [hq] at hc
    obtain ⟨n, ff, hb, hin, rfl⟩ := zaI_of hq
    obtain ⟨hx, hbc, hml, hown, hts, hE, -⟩ := id hok
    exact va_zald (ws := [(b, .inl (g.2.1 2, n, .inl ff))]) (D := g.1) (cl := vwCl) hx hbc hE.1 (fun j q hj => by cases j with | zero => cases hj; exact (hR.1 b _ hb).2 | succ j => cases hj) 0 2 rfl rfl hin hd (kk _ a h' hc hK hok ls H locs hv hR hS)
theorem zg_ald3 {b : Nat} {j : Int32} {f : Int64 → Option (α × zHp)} (hd : zDc M pc .laload 1 pc') (kk : ∀ v : Int64, zG X M cs pc' lv (.long v :: st) h (f v) K) : zG X M cs pc lv (.int j :: .ref b :: st) h (zob (zaL h b j) f) K := by
  obtain ⟨hd, rfl⟩ := hd
  obtain ⟨p, l, e, R, s, m, args, below, meth, cd, g, Qc⟩ := X
  intro a h' hc hK hok ls H locs hv hR hS
  cases hq : zaL h b j with
  | none => rw [hq] at hc; cases hc
  | some v =>
    rw [hq] at hc
    obtain ⟨n, ff, hb, hin, rfl⟩ := zaL_of hq
    obtain ⟨hx, hbc, hml, hown, hts, hE, -⟩ := id hok
    exact va_lald (ws := [(b, .inl (g.2.1 3, n, .inr (.inl ff)))]) (D := g.1) (cl := vwCl) hx hbc hE.1 (fun j q hj => by cases j with | zero => cases hj; exact (hR.1 b _ hb).2 | succ j => cases hj) 0 3 rfl rfl hin hd (kk _ a h' hc hK hok ls H locs hv hR hS)
theorem zg_ald4 {b : Nat} {j : Int32} {f : Nat → Option (α × zHp)} (hd : zDc M pc .aaload 1 pc') (kk : ∀ v : Nat, zG X M cs pc' lv (.ref v :: st) h (f v) K) : zG X M cs pc lv (.int j :: .ref b :: st) h (zob (zaA 4 h b j) f) K := by
  obtain ⟨hd, rfl⟩ := hd
  obtain ⟨p, l, e, R, s, m, args, below, meth, cd, g, Qc⟩ := X
  intro a h' hc hK hok ls H locs hv hR hS
  cases hq : zaA 4 h b j with
  | none => rw [hq] at hc; cases hc
  | some v =>
    rw [hq] at hc
    obtain ⟨n, ff, hb, hin, hfv⟩ := zaA_of hq
    obtain ⟨hx, hbc, hml, hown, hts, hE, -⟩ := id hok
    have hcell : H[b]? = some (arrV (g.2.1 4) n (fun j => va_rf (ff j))) := (hR.1 b _ hb).2
    have hlt : j.toNatClampNeg < n := Nat.not_le.mp fun q => hin (Or.inr q)
    exact W.aald (v := .ref v) (ty := .object "CloudSchool$Sky") hx hbc hcell ((hE.1.2 4 _ rfl).1 n _) rfl (fun q => by cases q) (by rw [arrV_size]; exact hin) (by rw [arrV_read _ _ hlt, hfv]; rfl) rfl rfl hd (kk v a h' hc hK hok ls H locs hv hR hS)
theorem zg_ald5 {b : Nat} {j : Int32} {f : Nat → Option (α × zHp)} (hd : zDc M pc .aaload 1 pc') (kk : ∀ v : Nat, zG X M cs pc' lv (.ref v :: st) h (f v) K) : zG X M cs pc lv (.int j :: .ref b :: st) h (zob (zaA 5 h b j) f) K := by
  obtain ⟨hd, rfl⟩ := hd
  obtain ⟨p, l, e, R, s, m, args, below, meth, cd, g, Qc⟩ := X
  intro a h' hc hK hok ls H locs hv hR hS
  cases hq : zaA 5 h b j with
  | none => rw [hq] at hc; cases hc
  | some v =>
    rw [hq] at hc
    obtain ⟨n, ff, hb, hin, hfv⟩ := zaA_of hq
    obtain ⟨hx, hbc, hml, hown, hts, hE, -⟩ := id hok
    have hcell : H[b]? = some (arrV (g.2.1 5) n (fun j => va_rf (ff j))) := (hR.1 b _ hb).2
    have hlt : j.toNatClampNeg < n := Nat.not_le.mp fun q => hin (Or.inr q)
    exact W.aald (v := .ref v) (ty := .array .int) hx hbc hcell ((hE.1.2 5 _ rfl).1 n _) rfl (fun q => by cases q) (by rw [arrV_size]; exact hin) (by rw [arrV_read _ _ hlt, hfv]; rfl) rfl rfl hd (kk v a h' hc hK hok ls H locs hv hR hS)
theorem zarr_set {cA : ClassId} {n k : Nat} {f : Nat → Int32} {x : Int32} {v : Value} (hv : v = .int x) : (arrV cA n (fun j => .int (f j))).setSlot k v = vp_cell cA (n, .inl (upd f k x)) := by
  subst hv
  rw [vp_cell_i, arrV_store]
  congr 2
  funext q
  by_cases hq : q = k
  · subst hq
    simp [updV, upd]
  · simp [updV, upd, hq]
theorem zarr_setL {cA : ClassId} {n k : Nat} {f : Nat → Int64} {x : Int64} : (arrV cA n (fun j => .long (f j))).setSlot k (.long x) = vp_cell cA (n, .inr (.inl (vp_updL f k x))) := by
  rw [vp_cell_l, arrV_store]
  congr 2
  funext q
  by_cases hq : q = k
  · subst hq
    simp [updV, vp_updL]
  · simp [updV, vp_updL, hq]
theorem zg_ast0 {b : Nat} {j x : Int32} {f : zHp → Option (α × zHp)} (hd : zDc M pc .iastore 1 pc') (kk : ∀ h1 : zHp, zG X M cs pc' lv st h1 (f h1) K) : zG X M cs pc lv (.int x :: .int j :: .ref b :: st) h (zob (zsI 0 h b j x) f) K := by
  obtain ⟨hd, rfl⟩ := hd
  obtain ⟨p, l, e, R, s, m, args, below, meth, cd, g, Qc⟩ := X
  intro a h' hc hK hok ls H locs hv hR hS
  cases hq : zsI 0 h b j x with
  | none => rw [hq] at hc; cases hc
  | some h1 =>
    rw [hq] at hc
    obtain ⟨n, ff, hb, hin, rfl⟩ := zsI_of hq
    obtain ⟨hx, hbc, hml, hown, hts, hE, -⟩ := id hok
    have hcell : H[b]? = some (arrV (g.2.1 0) n (fun j => .int (ff j))) := (hR.1 b _ hb).2
    refine W.iast hx hbc hcell ((hE.1.2 0 _ rfl).1 n _) (fun q => by cases q) (by rw [arrV_size]; exact hin) rfl rfl hd fun H1 e z oq => ?_
    rw [zarr_set rfl] at e
    exact kk _ a h' hc hK hok ls H1 _ hv (hR.wr hb e z oq) (hS.put z oq (hR.1 b _ hb).1)
theorem zg_ast1 {b : Nat} {j x : Int32} {f : zHp → Option (α × zHp)} (hd : zDc M pc .bastore 1 pc') (kk : ∀ h1 : zHp, zG X M cs pc' lv st h1 (f h1) K) : zG X M cs pc lv (.int x :: .int j :: .ref b :: st) h (zob (zsI 1 h b j x) f) K := by
  obtain ⟨hd, rfl⟩ := hd
  obtain ⟨p, l, e, R, s, m, args, below, meth, cd, g, Qc⟩ := X
  intro a h' hc hK hok ls H locs hv hR hS
  cases hq : zsI 1 h b j x with
  | none => rw [hq] at hc; cases hc
  | some h1 =>
    rw [hq] at hc
    obtain ⟨n, ff, hb, hin, rfl⟩ := zsI_of hq
    obtain ⟨hx, hbc, hml, hown, hts, hE, -⟩ := id hok
    have hcell : H[b]? = some (arrV (g.2.1 1) n (fun j => .int (ff j))) := (hR.1 b _ hb).2
    refine W.bast hx hbc hcell ((hE.1.2 1 _ rfl).1 n _) (fun q => by cases q) (by rw [arrV_size]; exact hin) rfl rfl hd fun H1 e z oq => ?_
    rw [show narrow FieldType.byte (Value.int x) = Value.int (vp_nar .byte x) from rfl, zarr_set rfl] at e
    exact kk _ a h' hc hK hok ls H1 _ hv (hR.wr hb e z oq) (hS.put z oq (hR.1 b _ hb).1)
theorem zg_ast2 {b : Nat} {j x : Int32} {f : zHp → Option (α × zHp)} (hd : zDc M pc .bastore 1 pc') (kk : ∀ h1 : zHp, zG X M cs pc' lv st h1 (f h1) K) : zG X M cs pc lv (.int x :: .int j :: .ref b :: st) h (zob (zsI 2 h b j x) f) K := by
  obtain ⟨hd, rfl⟩ := hd
  obtain ⟨p, l, e, R, s, m, args, below, meth, cd, g, Qc⟩ := X
  intro a h' hc hK hok ls H locs hv hR hS
  cases hq : zsI 2 h b j x with
  | none => rw [hq] at hc; cases hc
  | some h1 =>
    rw [hq] at hc
    obtain ⟨n, ff, hb, hin, rfl⟩ := zsI_of hq
    obtain ⟨hx, hbc, hml, hown, hts, hE, -⟩ := id hok
    have hcell : H[b]? = some (arrV (g.2.1 2) n (fun j => .int (ff j))) := (hR.1 b _ hb).2
    refine W.zast hx hbc hcell ((hE.1.2 2 _ rfl).1 n _) (fun q => by cases q) (by rw [arrV_size]; exact hin) rfl rfl hd fun H1 e z oq => ?_
    rw [show narrow FieldType.boolean (Value.int x) = Value.int (vp_nar .boolean x) from rfl, zarr_set rfl] at e
    exact kk _ a h' hc hK hok ls H1 _ hv (hR.wr hb e z oq) (hS.put z oq (hR.1 b _ hb).1)
theorem zg_ast3 {b : Nat} {j : Int32} {x : Int64} {f : zHp → Option (α × zHp)} (hd : zDc M pc .lastore 1 pc') (kk : ∀ h1 : zHp, zG X M cs pc' lv st h1 (f h1) K) : zG X M cs pc lv (.long x :: .int j :: .ref b :: st) h (zob (zsL h b j x) f) K := by
  obtain ⟨hd, rfl⟩ := hd
  obtain ⟨p, l, e, R, s, m, args, below, meth, cd, g, Qc⟩ := X
  intro a h' hc hK hok ls H locs hv hR hS
  cases hq : zsL h b j x with
  | none => rw [hq] at hc; cases hc
  | some h1 =>
    rw [hq] at hc
    obtain ⟨n, ff, hb, hin, rfl⟩ := zsL_of hq
    obtain ⟨hx, hbc, hml, hown, hts, hE, -⟩ := id hok
    have hcell : H[b]? = some (arrV (g.2.1 3) n (fun j => .long (ff j))) := (hR.1 b _ hb).2
    refine W.last hx hbc hcell ((hE.1.2 3 _ rfl).1 n _) (fun q => by cases q) (by rw [arrV_size]; exact hin) rfl rfl hd fun H1 e z oq => ?_
    rw [zarr_setL] at e
    exact kk _ a h' hc hK hok ls H1 _ hv (hR.wr hb e z oq) (hS.put z oq (hR.1 b _ hb).1)
theorem zg_len {b : Nat} {f : Int32 → Option (α × zHp)} (hd : zDc M pc .arraylength 1 pc') (kk : ∀ v : Int32, zG X M cs pc' lv (.int v :: st) h (f v) K) : zG X M cs pc lv (.ref b :: st) h (zob (zln h b) f) K := by
  obtain ⟨hd, rfl⟩ := hd
  obtain ⟨p, l, e, R, s, m, args, below, meth, cd, g, Qc⟩ := X
  intro a h' hc hK hok ls H locs hv hR hS
  cases hq : zln h b with
  | none => rw [hq] at hc; cases hc
  | some v =>
    rw [hq] at hc
    obtain ⟨t, x, hb, ht, hv1⟩ := zln_of hq
    obtain ⟨hx, hbc, hml, hown, hts, hE, -⟩ := id hok
    have key : ∃ ty : FieldType, (zTy g.2.1)[t]? = some (g.2.1 t, ty) := by
      rcases (show t = 0 ∨ t = 1 ∨ t = 2 ∨ t = 3 ∨ t = 4 ∨ t = 5 by omega) with rfl | rfl | rfl | rfl | rfl | rfl <;> exact ⟨_, rfl⟩
    obtain ⟨ty, hty⟩ := key
    exact va_alen (ws := [(b, .inl (g.2.1 t, x))]) (D := g.1) (cl := vwCl) hx hbc hE.1 (fun j q hj => by cases j with | zero => cases hj; exact (hR.1 b _ hb).2 | succ j => cases hj) 0 t rfl hty hv1 hd (kk _ a h' hc hK hok ls H locs hv hR hS)
/-! ends -/
theorem zg_iret {v : Int32} (hd : zDc M pc .ireturn 1 pc') (hr : M.2.2.2.2.2.1 = some .int) (hcs : cs.1 ≤ M.2.2.2.2.2.2.2.1 ∧ cs.2 ≤ M.2.2.2.2.2.2.2.2) : zG X M cs pc lv [.int v] h (some (v, h)) (fun r h' => zKe X (some (.int r)) h') := by
  obtain ⟨hd, rfl⟩ := hd
  obtain ⟨p, l, e, R, s, m, args, below, meth, cd, g, Qc⟩ := X
  intro a h' hc hK hok ls H locs hv hR hS
  cases hc
  obtain ⟨hx, hbc, hml, hown, hts, hE, hlk, hret, -⟩ := id hok
  refine W.widen hcs.1 hcs.2 (W.iret hx hbc (hret.trans hr) (fun t ht hW => hK t (by rw [ht]; exact hR) (hS.F ht)) hS.2.2 hd hlk)
theorem zg_zret {v : Int32} (hd : zDc M pc .ireturn 1 pc') (hr : M.2.2.2.2.2.1 = some .boolean) (hcs : cs.1 ≤ M.2.2.2.2.2.2.2.1 ∧ cs.2 ≤ M.2.2.2.2.2.2.2.2) : zG X M cs pc lv [.int v] h (zzr v h) (fun r h' => zKe X (some (.int r)) h') := by
  obtain ⟨hd, rfl⟩ := hd
  obtain ⟨p, l, e, R, s, m, args, below, meth, cd, g, Qc⟩ := X
  intro a h' hc hK hok ls H locs hv hR hS
  unfold zzr at hc
  split at hc
  · rename_i h01
    cases hc
    obtain ⟨hx, hbc, hml, hown, hts, hE, hlk, hret, -⟩ := id hok
    refine W.widen hcs.1 hcs.2 (W.zret (ty := .boolean) hx hbc (hret.trans hr) (by rcases h01 with rfl | rfl <;> rfl) (fun t ht hW => hK t (by rw [ht]; exact hR) (hS.F ht)) hS.2.2 hd hlk)
  · cases hc
theorem zg_lret {v : Int64} (hd : zDc M pc .lreturn 1 pc') (hr : M.2.2.2.2.2.1 = some .long) (hcs : cs.1 ≤ M.2.2.2.2.2.2.2.1 ∧ cs.2 ≤ M.2.2.2.2.2.2.2.2) : zG X M cs pc lv [.long v] h (some (v, h)) (fun r h' => zKe X (some (.long r)) h') := by
  obtain ⟨hd, rfl⟩ := hd
  obtain ⟨p, l, e, R, s, m, args, below, meth, cd, g, Qc⟩ := X
  intro a h' hc hK hok ls H locs hv hR hS
  cases hc
  obtain ⟨hx, hbc, hml, hown, hts, hE, hlk, hret, -⟩ := id hok
  refine W.widen hcs.1 hcs.2 (W.lret hx hbc (hret.trans hr) (fun t ht hW => hK t (by rw [ht]; exact hR) (hS.F ht)) hS.2.2 hd hlk)
theorem zg_vret (hd : zDc M pc .return_ 1 pc') (hr : M.2.2.2.2.2.1 = none) (hcs : cs.1 ≤ M.2.2.2.2.2.2.2.1 ∧ cs.2 ≤ M.2.2.2.2.2.2.2.2) : zG X M cs pc lv [] h (some ((), h)) (fun (_ : Unit) h' => zKe X none h') := by
  obtain ⟨hd, rfl⟩ := hd
  obtain ⟨p, l, e, R, s, m, args, below, meth, cd, g, Qc⟩ := X
  intro a h' hc hK hok ls H locs hv hR hS
  cases hc
  obtain ⟨hx, hbc, hml, hown, hts, hE, hlk, hret, -⟩ := id hok
  refine W.widen hcs.1 hcs.2 (W.vret hx hbc (hret.trans hr) (fun t ht hW => hK t (by rw [ht]; exact hR) (hS.F ht)) hS.2.2 hd hlk)
theorem zg_aret {v : Nat} {n : String} (hd : zDc M pc .areturn 1 pc') (hr : M.2.2.2.2.2.1 = some (.object n)) (hcs : cs.1 ≤ M.2.2.2.2.2.2.2.1 ∧ cs.2 ≤ M.2.2.2.2.2.2.2.2) : zG X M cs pc lv [.ref v] h (some (v, h)) (fun r h' => zKe X (some (.ref r)) h') := by
  obtain ⟨hd, rfl⟩ := hd
  obtain ⟨p, l, e, R, s, m, args, below, meth, cd, g, Qc⟩ := X
  intro a h' hc hK hok ls H locs hv hR hS
  cases hc
  obtain ⟨hx, hbc, hml, hown, hts, hE, hlk, hret, -⟩ := id hok
  refine W.widen hcs.1 hcs.2 (W.aret hx hbc (hret.trans hr) (Or.inl ⟨_, rfl⟩) (Or.inr ⟨_, rfl⟩) (fun t ht hW => hK t (by rw [ht]; exact hR) (hS.F ht)) hS.2.2 hd hlk)
/-! switches -/
theorem zg_tabI {x : Int32} {dflt lo hi off : Int} {offs : Array Int} {len tgt : Nat} (hd : decode M.2.1 pc = .ok (.tableswitch dflt lo hi offs, len)) (h1 : ¬ x.toInt < lo) (h2 : ¬ hi < x.toInt) (ho : offs[(x.toInt - lo).toNat]? = some off) (ht : (pc : Int) + off = (tgt : Int)) (k : zG X M cs tgt lv st h c K) : zG X M cs pc lv (.int x :: st) h c K := by
  obtain ⟨p, l, e, R, s, m, args, below, meth, cd, g, Qc⟩ := X
  intro a h' hc hK hok ls H locs hv hR hS
  exact lv_tableIn hok.1 hok.2.1 hd h1 h2 ho ht (k a h' hc hK hok ls H locs hv hR hS)
theorem zg_tabO {x : Int32} {dflt lo hi : Int} {offs : Array Int} {len tgt : Nat} (hd : decode M.2.1 pc = .ok (.tableswitch dflt lo hi offs, len)) (h1 : x.toInt < lo ∨ hi < x.toInt) (ht : (pc : Int) + dflt = (tgt : Int)) (k : zG X M cs tgt lv st h c K) : zG X M cs pc lv (.int x :: st) h c K := by
  obtain ⟨p, l, e, R, s, m, args, below, meth, cd, g, Qc⟩ := X
  intro a h' hc hK hok ls H locs hv hR hS
  exact lv_tableOut hok.1 hok.2.1 hd h1 ht (k a h' hc hK hok ls H locs hv hR hS)
theorem zg_look {x : Int32} {dflt off : Int} {ps : Array (Int × Int)} {len tgt : Nat} (hd : decode M.2.1 pc = .ok (.lookupswitch dflt ps, len)) (hp : (ps.toList.zip (ps.toList.drop 1)).all (fun (a, next) => a.1 < next.1) = true) (ho : Op.lookupswitch.offset ps.toList dflt x.toInt = off) (ht : (pc : Int) + off = (tgt : Int)) (k : zG X M cs tgt lv st h c K) : zG X M cs pc lv (.int x :: st) h c K := by
  obtain ⟨p, l, e, R, s, m, args, below, meth, cd, g, Qc⟩ := X
  intro a h' hc hK hok ls H locs hv hR hS
  exact lv_lookup hok.1 hok.2.1 hd hp ho ht (k a h' hc hK hok ls H locs hv hR hS)
theorem zg_obj {i b : Nat} (hd : zDc M pc (.invokespecial i) 3 pc') (hw : Cond.methodLink M.1 i objectInit ∈ zT) (h2 : Cond.instanceMethod objectInit ∈ zT) (h3 : Cond.code objectInit ⟨#[0xb1]⟩ 1 none ∈ zT) (hf : 1 ≤ M.2.2.2.1) (hlo : (st.map fun v => v.category).sum + 12 ≤ M.2.2.2.2.1) (k : zG X M cs pc' lv st h c K) : zG X M cs pc lv (.ref b :: st) h c K := by
  obtain ⟨hd, rfl⟩ := hd
  obtain ⟨p, l, e, R, s, m, args, below, meth, cd, g, Qc⟩ := X
  intro a h' hc hK hok ls H locs hv hR hS
  obtain ⟨hx, hbc, hml, hown, hts, hE, hlk, hret, hnm, hRf, hRl, hRc, hRs⟩ := id hok
  exact W.objInit (g := F0 m pc ls (.ref b :: st)) hx hbc hown (hts _ hw) (hts _ h2) (hts _ h3) rfl (hv.1.trans hml.symm) rfl hd (by rw [hRf]; exact hf) (by rw [hRl]; show 2 * 0 + _ + 12 ≤ _; omega) (k a h' hc hK hok ls H locs hv hR hS)
/-! making -/
theorem zg_new {ci i : Nat} {C : String} {T : u_T} {N : Nat} {ty : Nat → FieldType} {fs : List Value} {f : Nat → zHp → Option (α × zHp)} (cs' : Nat × Nat) (hd : zDc M pc (.new i) 3 pc') (hC : zCl ci C T N ty) (hw : Cond.classLink M.1 i C ∈ zT) (hi : Cond.instantiable C N ∈ zT) (hn : Cond.initialized C ∈ zT) (hfs : ∀ j, j < N → defaultValue (ty j) = vp_V fs j) (hcs : cs.1 + 1 ≤ M.2.2.2.2.2.2.2.1 ∧ cs.2 + N ≤ M.2.2.2.2.2.2.2.2) (hcs' : (cs.1 + 1, cs.2 + N) = cs')
    (kk : ∀ (r : Nat) (h1 : zHp), zG X M cs' pc' lv (.ref r :: st) h1 (f r h1) K) : zG X M cs pc lv st h (zbd (znO h ci fs) f) K := by
  obtain ⟨hd, rfl⟩ := hd
  subst hcs'
  obtain ⟨p, l, e, R, s, m, args, below, meth, cd, g, Qc⟩ := X
  intro a h' hc hK hok ls H locs hv hR hS
  obtain ⟨hx, hbc, hml, hown, hts, hE, hlk, hret, hnm, hRf, hRl, hRc, hRs⟩ := id hok
  have hKn := hE.1.1 ci _ hC.1
  refine W.newcK hx hbc hown (hts _ hw) (hts _ hi) (hts _ hn) rfl hd (by rw [hRc]; exact hcs.1) (by rw [hRs]; exact hcs.2) hKn.2.1 rfl fun H1 kC hkC e1 z1 o1 => ?_
  rw [hR.2]
  exact kk h.2 _ a h' hc hK hok ls H1 locs hv (hR.nw (Nat.le_trans hE.2.2.2 hS.1) ⟨_, hC.1, (u_born ty hts hC.2.1 hKn hkC e1 hC.2.2.1).to hfs⟩ z1 o1) ⟨Nat.le_trans hS.1 (by omega), fun x q1 q2 => (o1 x (Nat.lt_of_lt_of_le q1 hS.1)).trans (hS.2.1 x q1 q2), hS.2.2⟩
end ZH

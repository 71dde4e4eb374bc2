/-! the law's cloud: it catches what is thrown -/
section
variable {X : zCx} {M : zMt} {cs : Nat × Nat} {pc : Nat} {lv : List (Nat × Value)} {st : List Value} {h : zHp}
theorem zs_of (k : zG X M cs pc lv st h (some ((), h)) (fun _ _ => True)) : zSW X M cs pc lv st h := k () h rfl trivial
theorem zs_fin (k : zSW X M cs pc lv st h) : zG X M cs pc lv st h (some ((), h)) (fun _ _ => True) := zg_fin (fun _ => k)
end
theorem zMH {l : Launch} {y : MethodName} {ws ws' : List Cond} {rm : Room} {Pc : Array Value → State → Prop} {Qc : Array Value → State → Outcome → State → Prop} {mc ms : Nat} {free : Addr → Prop} {cc : ByteArray} {maxL : Nat} {ret : Option FieldType} {hh : List (Nat × Nat × Nat × Nat)}
    (hy : plainName y.cls = true) (hw : ws = Cond.codeWith y cc maxL ret hh :: ws')
    (body : ∀ p e s m args below meth c s₁, BodyLoose p l y (headSpec ws rm) cc maxL ret e s m args below meth c s₁ → c.maxLocals = maxL → Pc args s →
      W p l e (headSpec ws rm).room s m args below meth c s.heap [] 0 0 (MQ below Qc args s mc ms free) (entryFrame m args maxL)) : Met l y ws rm Pc Qc mc ms free := by
  refine MetFree.of_bodyS (code := cc) (maxLocals := maxL) (ret := ret) hy ?_ ?_
  · intro args s m h hn
    obtain ⟨m9, meth, c, hn9, h1, h2, h3, h4, -, h5, h6, -⟩ := Cond.codeWith_spec (atoms_spec (ws := ws) h _ (by rw [hw]; exact List.mem_cons_self))
    cases hn.symm.trans hn9
    exact ⟨meth, c, h1, h2, h3, h4, h5, h6⟩
  · intro p e s m args below meth c s₁ B hml hP _
    have hh0 : s₁.heap = s.heap := by rw [B.state]; rfl
    obtain ⟨t, a1, o, b1, b2, b3⟩ := body p e s m args below meth c s₁ B hml hP s₁ hh0 (Stand.of_body B)
    exact ⟨t, o, a1, b1, b2, ⟨b3.1, b3.2⟩⟩
abbrev M_L_cloud : zMt := (RL, cL_cloud, 5, 7, 150, (some .int), "cloud", 1, 6)
theorem d_L_cloud_0 : zDc M_L_cloud 0 (.aload_n 3) 1 1 := ⟨by decide +kernel, rfl⟩
theorem d_L_cloud_1 : zDc M_L_cloud 1 (.iconst 0) 1 2 := ⟨by decide +kernel, rfl⟩
theorem d_L_cloud_2 : zDc M_L_cloud 2 (.aload_n 0) 1 3 := ⟨by decide +kernel, rfl⟩
theorem d_L_cloud_3 : zDc M_L_cloud 3 (.iload_n 1) 1 4 := ⟨by decide +kernel, rfl⟩
theorem d_L_cloud_4 : zDc M_L_cloud 4 (.iload_n 2) 1 5 := ⟨by decide +kernel, rfl⟩
theorem d_L_cloud_5 : zDc M_L_cloud 5 (.invokevirtual 7) 3 8 := ⟨by decide +kernel, rfl⟩
theorem d_L_cloud_8 : zDc M_L_cloud 8 (.i2l) 1 9 := ⟨by decide +kernel, rfl⟩
theorem d_L_cloud_9 : zDc M_L_cloud 9 (.lastore) 1 10 := ⟨by decide +kernel, rfl⟩
theorem d_L_cloud_10 : zDj M_L_cloud 10 (.goto 11) 11 13 21 := ⟨by decide +kernel, rfl, by decide⟩
theorem d_L_cloud_13 : zDc M_L_cloud 13 (.astore 4) 2 15 := ⟨by decide +kernel, rfl⟩
theorem d_L_cloud_15 : zDc M_L_cloud 15 (.iconst 1) 1 16 := ⟨by decide +kernel, rfl⟩
theorem d_L_cloud_16 : zDc M_L_cloud 16 (.ireturn) 1 17 := ⟨by decide +kernel, rfl⟩
theorem d_L_cloud_17 : zDc M_L_cloud 17 (.astore 4) 2 19 := ⟨by decide +kernel, rfl⟩
theorem d_L_cloud_19 : zDc M_L_cloud 19 (.iconst 2) 1 20 := ⟨by decide +kernel, rfl⟩
theorem d_L_cloud_20 : zDc M_L_cloud 20 (.ireturn) 1 21 := ⟨by decide +kernel, rfl⟩
theorem d_L_cloud_21 : zDc M_L_cloud 21 (.iconst 0) 1 22 := ⟨by decide +kernel, rfl⟩
theorem d_L_cloud_22 : zDc M_L_cloud 22 (.ireturn) 1 23 := ⟨by decide +kernel, rfl⟩
theorem cd_X7_cloud : Cond.code yX7_cloud cX7_cloud 3 (some .int) ∈ zT := zw_m (by decide +kernel) (by decide +kernel)
theorem ml_L_7 : Cond.methodLink RL 7 yX7_cloud ∈ zT := zw_m (by decide +kernel) (by decide +kernel)
theorem cw_L_7 : zCw RL 7 yX7_cloud cX7_cloud 3 (some .int) 2 := ⟨ml_L_7, ni_X7, cd_X7_cloud, by decide, by decide, by decide +kernel⟩
theorem wi_X7_cloud : Cond.instanceMethod yX7_cloud ∈ zT := zw_m (by decide +kernel) (by decide +kernel)
theorem ws_X7_cloud : Cond.selects RX7 yX7_cloud yX7_cloud ∈ zT := zw_m (by decide +kernel) (by decide +kernel)
theorem cl_L_13 : Cond.classLink RL 13 "java/lang/IndexOutOfBoundsException" ∈ zT := zw_m (by decide +kernel) (by decide +kernel)
theorem cl_L_15 : Cond.classLink RL 15 "java/util/NoSuchElementException" ∈ zT := zw_m (by decide +kernel) (by decide +kernel)
def zLQ (g : zGl) (k : Int32) (h1 : zHp) : Array Value → State → Outcome → State → Prop := fun _ st oc t => oc = .returned (some (.int k)) ∧ (∃ n', zHR g.1 g.2.1 g.2.2.1 (h1.1, n') t.heap) ∧ va_F (fun q => g.2.2.1 ≤ q) st t
/-- which way the call goes -/
def zLw (x o : Nat) (a b : Int32) (h : zHp) (k : Int32) (h1 : zHp) : Prop :=
  (∃ v h2, f_X7_cloud x a b h = some (v, h2) ∧ zsL h2 o 0 v.toInt64 = some h1 ∧ k = 0) ∨ (∃ r, f_X7_isCloud x a h = some (r, h1) ∧ r = 0 ∧ k = 1) ∨ (∃ r, f_X7_isCloud x a h = some (r, h1) ∧ ¬ r = 0 ∧ (b.toInt < 0 ∨ 5 < b.toInt) ∧ k = 2)
set_option maxRecDepth 100000 in
set_option maxHeartbeats 4000000 in
theorem x_L_cloud (l : Launch) (hl0 : l.stackTraces = false) (g : zGl) {x o : Nat} {a b k : Int32} {h h1 : zHp} {fs : List Value} (ex : h.1 x = some (.inr (7, fs))) (hw : zLw x o a b h k h1) : Met l yL_cloud (.codeWith yL_cloud cL_cloud 5 (some .int) [(0, 10, 13, 13), (0, 10, 17, 15)] :: zT) { frames := 7, cells := 1, slots := 6, locals := 150 } (zPX g [.ref x, .int a, .int b, .ref o] h) (zLQ g k h1) 1 6 (fun q => g.2.2.1 ≤ q) := by
  refine zMH (cc := cL_cloud) (maxL := 5) (ret := some .int) (hh := [(0, 10, 13, 13), (0, 10, 17, 15)]) (by decide) rfl ?_
  intro p e s m args below meth c s₁ B hml hP
  obtain ⟨⟨rfl, hR0, hE⟩, hX⟩ := hP
  have hown : s.vm.findClass RL = some m.cls := findClass_of_methodNamed B.named
  have hts0 := atoms_spec B.pre
  have hts : ∀ w ∈ zT, w.before ([.ref x, .int a, .int b, .ref o] : List Value).toArray s = true := fun w hw => hts0 w (List.mem_cons_of_mem _ hw)
  have htab : c.exceptionTable.toList = [⟨0, 10, 13, 13⟩, ⟨0, 10, 17, 15⟩] := vx_table (x := yL_cloud) B (hts0 _ List.mem_cons_self)
  have hv0 := lv_entry [.ref x, .int a, .int b, .ref o] (n := 5) (Nat.le_of_ble_eq_true rfl)
  rw [lg_entry_eq]
  have hok0 : zOk (p, l, e, ({ frames := 7, cells := 1, slots := 6, locals := 150 } : Room), s, m, ([.ref x, .int a, .int b, .ref o] : List Value).toArray, below, meth, c, g, zLQ g k h1) M_L_cloud := ⟨B.exec, B.bytes, hml, hown, hts, hE, B.notSynchronized, B.returns, (name_of_methodNamed B.named B.method).1, rfl, rfl, rfl, rfl⟩
  suffices hz : zSW (p, l, e, ({ frames := 7, cells := 1, slots := 6, locals := 150 } : Room), s, m, ([.ref x, .int a, .int b, .ref o] : List Value).toArray, below, meth, c, g, zLQ g k h1) M_L_cloud (0, 0) 5 [(0, .ref x), (1, .int a), (2, .int b), (3, .ref o)] [.int b, .int a, .ref x, .int 0, .ref o] h from
    zs_of (zg_aload_n 3 rfl d_L_cloud_0 (zg_iconst 0 rfl d_L_cloud_1 (zg_aload_n 0 rfl d_L_cloud_2 (zg_iload_n 1 rfl d_L_cloud_3 (zg_iload_n 2 rfl d_L_cloud_4 (zs_fin hz)))))) hok0 _ s.heap [] hv0 hR0 va_S.rf
  intro hok ls H locs hv hR hS
  obtain ⟨r', hr', cell, g1, g2, g3, -⟩ := (hR.1 x _ ex).2
  have hr'' : r' = (RX7, TX7, 10) := Option.some.inj (hr'.symm.trans zc_7.1)
  subst hr''
  have hpre := zPreX (As := [.ref x, .int a, .int b]) hE hX hR hS
  have pre : PreV s H RX7 x (zPX g [.ref x, .int a, .int b] h) [.int a, .int b] := ⟨hpre.1, ⟨cell, g1, by rw [g3]; rfl, by rw [g2]; exact (hE.1.1 7 _ zc_7.1).2.1⟩, hpre.2⟩
  have run : ∀ {Qx : Array Value → State → Outcome → State → Prop} {XCx : String → State → State → Prop}, vx_Met l yX7_cloud (.code yX7_cloud cX7_cloud 3 (some .int) :: zT) { frames := 6, cells := 1, slots := 6, locals := 120 } (zPX g [.ref x, .int a, .int b] h) Qx XCx 1 6 (fun q => g.2.2.1 ≤ q) → vx_Run p l e ({ frames := 7, cells := 1, slots := 6, locals := 150 } : Room) s m ([.ref x, .int a, .int b, .ref o] : List Value).toArray below meth c H locs 0 0 1 6 (F0 m 5 ls [.int b, .int a, .ref x, .int 0, .ref o]) [.int 0, .ref o] (Qx (Value.ref x :: [.int a, .int b]).toArray) XCx (fun q => g.2.2.1 ≤ q) := fun hM =>
    vx_runV (C := RX7) (b := x) (As := [.int a, .int b]) (rest := [.int 0, .ref o]) (Ts := zT) ⟨B.exec, B.bytes, hml, hown, hts⟩ hM ⟨cw_L_7.B hts (by decide) (by decide), hts _ wi_X7_cloud, hts _ ws_X7_cloud⟩ pre rfl rfl hv.1 rfl (Nat.le_of_ble_eq_true rfl) d_L_cloud_5.1 ⟨by decide, by decide⟩
  have keep : ∀ {st₀ t T' : State} {L : List Loc}, st₀.heap = H → T'.heap = t.heap → (∀ q ∈ L, g.2.2.1 ≤ q.base) → va_F (fun q => g.2.2.1 ≤ q) st₀ t → va_S (fun q => g.2.2.1 ≤ q) s.heap T'.heap (locs ++ L) := fun h0 e1 hL hF => (vx_keep h0 e1 hS (fun _ _ z => z) (fun _ z => z) hL hF).2.2
  rcases hw with ⟨v, h2, ev, es, rfl⟩ | ⟨r, er, r0, rfl⟩ | ⟨r, er, r0, hb, rfl⟩
  · intro T hT Xs
    rcases run (x_cloudR l g ev (fun _ _ _ => False)) T hT Xs with ⟨v', st₀, t, T', L, h0, X', hL, e1, e2, ⟨hv', hR1, hF⟩, stp⟩ | ⟨q, st₀, t, T', L, E, ce, h0, X', hL, e1, e2, hf, -⟩
    · cases hv'
      have G : zG (p, l, e, ({ frames := 7, cells := 1, slots := 6, locals := 150 } : Room), s, m, ([.ref x, .int a, .int b, .ref o] : List Value).toArray, below, meth, c, g, zLQ g 0 h1) M_L_cloud (1, 6) 8 [(0, .ref x), (1, .int a), (2, .int b), (3, .ref o)] [.int v, .int 0, .ref o] h2 (zob (zsL h2 o 0 v.toInt64) (fun h3 => some ((), h3))) (fun _ h' => h' = h1) := by
        refine zg_i2l d_L_cloud_8 (zg_ast3 d_L_cloud_9 (fun h3 => zg_goto d_L_cloud_10 (zg_iconst 0 rfl d_L_cloud_21 (zg_iretK d_L_cloud_22 rfl ⟨by decide, by decide⟩ ?_))))
        intro z t hr hf
        exact ⟨rfl, ⟨h3.2, by rw [← z]; exact hr⟩, hf⟩
      have sw := G () h1 (by rw [es]; rfl) rfl
      obtain ⟨t2, a1, b1⟩ := sw hok ls T'.heap (locs ++ L) hv (by rw [e1]; exact hR1) (keep h0 e1 hL hF) T' rfl X'
      exact ⟨t2, stp t2 a1, b1⟩
    · exact hf.elim
  · intro T hT Xs
    rcases run (x_cloudI l hl0 g ex er r0 (fun _ _ _ _ => False)) T hT Xs with ⟨v', st₀, t, T', L, h0, X', hL, e1, e2, hf, -⟩ | ⟨q, st₀, t, T', L, E, ce, h0, X', hL, e1, e2, ⟨rfl, ⟨n', hR1⟩, hF⟩, hce, hcv, hcl, stp⟩
    · exact hf.elim
    · have sw : zSW (p, l, e, ({ frames := 7, cells := 1, slots := 6, locals := 150 } : Room), s, m, ([.ref x, .int a, .int b, .ref o] : List Value).toArray, below, meth, c, g, zLQ g 1 h1) M_L_cloud (1, 6) 13 [(0, .ref x), (1, .int a), (2, .int b), (3, .ref o)] [.ref q] (h1.1, n') :=
        zs_of (zg_astore [(4, .ref q), (0, .ref x), (1, .int a), (2, .int b), (3, .ref o)] d_L_cloud_13 (by decide) rfl (zg_iconst 1 rfl d_L_cloud_15 (zg_iretK d_L_cloud_16 rfl ⟨by decide, by decide⟩ (fun _ t hr hf => ⟨rfl, ⟨n', hr⟩, hf⟩))))
      have w13 := sw hok ls T'.heap (locs ++ L) hv (by rw [e1]; exact hR1) (keep h0 e1 hL hF)
      have cat := vx_catch (pc := 5) (rest := [.int 0, .ref o]) hown [] _ _ htab (fun z hz => nomatch hz) (by decide) (by decide) (hts _ cl_L_13) (va_Nw.use rfl hX.2.2.2.2.2.1) (by rw [e1]; exact hce) hcv hcl w13
      obtain ⟨t2, a1, b1⟩ := cat T' rfl X'
      exact ⟨t2, stp.trans a1, b1⟩
  · intro T hT Xs
    rcases run (x_cloudN l hl0 g ex er r0 hb (fun _ _ _ _ => False)) T hT Xs with ⟨v', st₀, t, T', L, h0, X', hL, e1, e2, hf, -⟩ | ⟨q, st₀, t, T', L, E, ce, h0, X', hL, e1, e2, ⟨rfl, ⟨n', hR1⟩, hF⟩, hce, hcv, hcl, stp⟩
    · exact hf.elim
    · have sw : zSW (p, l, e, ({ frames := 7, cells := 1, slots := 6, locals := 150 } : Room), s, m, ([.ref x, .int a, .int b, .ref o] : List Value).toArray, below, meth, c, g, zLQ g 2 h1) M_L_cloud (1, 6) 17 [(0, .ref x), (1, .int a), (2, .int b), (3, .ref o)] [.ref q] (h1.1, n') :=
        zs_of (zg_astore [(4, .ref q), (0, .ref x), (1, .int a), (2, .int b), (3, .ref o)] d_L_cloud_17 (by decide) rfl (zg_iconst 2 rfl d_L_cloud_19 (zg_iretK d_L_cloud_20 rfl ⟨by decide, by decide⟩ (fun _ t hr hf => ⟨rfl, ⟨n', hr⟩, hf⟩))))
      have w17 := sw hok ls T'.heap (locs ++ L) hv (by rw [e1]; exact hR1) (keep h0 e1 hL hF)
      have cat := vx_catch (pc := 5) (rest := [.int 0, .ref o]) hown [_] _ _ htab (fun z hz => by
        rcases List.mem_singleton.mp hz with rfl
        exact Or.inr ⟨by decide, _, hts _ cl_L_13, hX.2.2.2.2.2.2.2⟩) (by decide) (by decide) (hts _ cl_L_15) (va_Nw.use rfl hX.2.2.2.2.2.2.1) (by rw [e1]; exact hce) hcv hcl w17
      obtain ⟨t2, a1, b1⟩ := cat T' rfl X'
      exact ⟨t2, stp.trans a1, b1⟩

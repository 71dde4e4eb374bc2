section ZK
variable {α β ε ρ σ : Type} {X : zCx} {M : zMt} {cs : Nat × Nat} {pc pc' : Nat} {lv : List (Nat × Value)} {st : List Value} {h : zHp} {c : Option (α × zHp)} {K : α → zHp → Prop}
theorem zg_iretK {v : Int32} {b : α} (hd : zDc M pc .ireturn 1 pc') (hr : M.2.2.2.2.2.1 = some .int) (hcs : cs.1 ≤ M.2.2.2.2.2.2.2.1 ∧ cs.2 ≤ M.2.2.2.2.2.2.2.2) (hk : K b h → zKe X (some (.int v)) h) : zG X M cs pc lv [.int v] h (some (b, h)) K := by
  intro b' h' hc hK
  cases hc
  exact zg_iret hd hr hcs v h rfl (hk hK)
theorem zg_zretK {v : Int32} {b : α} (hd : zDc M pc .ireturn 1 pc') (hr : M.2.2.2.2.2.1 = some .boolean) (hcs : cs.1 ≤ M.2.2.2.2.2.2.2.1 ∧ cs.2 ≤ M.2.2.2.2.2.2.2.2) (h01 : v = 0 ∨ v = 1) (hk : K b h → zKe X (some (.int v)) h) : zG X M cs pc lv [.int v] h (some (b, h)) K := by
  intro b' h' hc hK
  cases hc
  exact zg_zret hd hr hcs v h (by simp [zzr, h01]) (hk hK)
theorem zg_lretK {v : Int64} {b : α} (hd : zDc M pc .lreturn 1 pc') (hr : M.2.2.2.2.2.1 = some .long) (hcs : cs.1 ≤ M.2.2.2.2.2.2.2.1 ∧ cs.2 ≤ M.2.2.2.2.2.2.2.2) (hk : K b h → zKe X (some (.long v)) h) : zG X M cs pc lv [.long v] h (some (b, h)) K := by
  intro b' h' hc hK
  cases hc
  exact zg_lret hd hr hcs v h rfl (hk hK)
theorem zg_vretK {b : α} (hd : zDc M pc .return_ 1 pc') (hr : M.2.2.2.2.2.1 = none) (hcs : cs.1 ≤ M.2.2.2.2.2.2.2.1 ∧ cs.2 ≤ M.2.2.2.2.2.2.2.2) (hk : K b h → zKe X none h) : zG X M cs pc lv [] h (some (b, h)) K := by
  intro b' h' hc hK
  cases hc
  exact zg_vret hd hr hcs () h rfl (hk hK)
theorem zg_aretK {v : Nat} {b : α} {n : String} (hd : zDc M pc .areturn 1 pc') (hr : M.2.2.2.2.2.1 = some (.object n)) (hcs : cs.1 ≤ M.2.2.2.2.2.2.2.1 ∧ cs.2 ≤ M.2.2.2.2.2.2.2.2) (hk : K b h → zKe X (some (.ref v)) h) : zG X M cs pc lv [.ref v] h (some (b, h)) K := by
  intro b' h' hc hK
  cases hc
  exact zg_aret hd hr hcs v h rfl (hk hK)
def zzv (v : Int32) : Option Int32 := if v = 0 ∨ v = 1 then some v else none
theorem zg_zchk {v : Int32} {f : Int32 → Option (α × zHp)} (k : v = 0 ∨ v = 1 → zG X M cs pc lv st h (f v) K) : zG X M cs pc lv st h (zob (zzv v) f) K := by
  by_cases h01 : v = 0 ∨ v = 1
  · rw [show zzv v = some v by simp [zzv, h01]]
    exact k h01
  · rw [show zzv v = none by simp [zzv, h01]]
    intro b h' hc
    cases hc
/-- what is left is the other end of the block around -/
theorem zg_finK {a : α} {E : Nat} {lv' : List (Nat × Value)} {st' : List Value} (ks : List Nat) (hl : lv_pick lv ks = lv') (hs : st = st') (k : K a h → zSW X M cs pc lv' st' h) : zG X M cs pc lv st h (some (a, h)) K := by
  subst hs
  exact zg_fin (fun hk => (k hk).sub ks hl)
theorem zg_tabE {x k0 : Int32} {dflt lo hi off : Int} {offs : Array Int} {len tgt : Nat} (e : x = k0) (hd : decode M.2.1 pc = .ok (.tableswitch dflt lo hi offs, len)) (h1 : ¬ k0.toInt < lo) (h2 : ¬ hi < k0.toInt) (ho : offs[(k0.toInt - lo).toNat]? = some off) (ht : (pc : Int) + off = (tgt : Int)) (k : zG X M cs tgt lv st h c K) : zG X M cs pc lv (.int x :: st) h c K := by
  subst e
  exact zg_tabI hd h1 h2 ho ht k
theorem zg_lookE {x k0 : Int32} {dflt off : Int} {ps : Array (Int × Int)} {len tgt : Nat} (e : x = k0) (hd : decode M.2.1 pc = .ok (.lookupswitch dflt ps, len)) (hp : (ps.toList.zip (ps.toList.drop 1)).all (fun (a, next) => a.1 < next.1) = true) (ho : Op.lookupswitch.offset ps.toList dflt k0.toInt = off) (ht : (pc : Int) + off = (tgt : Int)) (k : zG X M cs tgt lv st h c K) : zG X M cs pc lv (.int x :: st) h c K := by
  subst e
  exact zg_look hd hp ho ht k
theorem zg_cVi {i n ci fr lo mc ms maxL : Nat} {y : MethodName} {bytes : ByteArray} {ret : Option FieldType} {b : Nat} {As rest : List Value} {cF : Option (Int32 × zHp)} {k : Int32 → zHp → Option (α × zHp)} {C : String} {T : u_T} {N : Nat} {ty : Nat → FieldType} (cs' : Nat × Nat)
    (hd : zDc M pc (.invokevirtual i) 3 pc') (hC : zCl ci C T N ty) (hyc : y.cls = C) (hw : zCw M.1 i y bytes maxL ret n) (hi : Cond.instanceMethod y ∈ zT) (hs : Cond.selects C y y ∈ zT) (hst : st = As.reverse ++ .ref b :: rest) (hn : As.length = n) (hcat : (rest.map fun v => v.category).sum ≤ 8)
    (hf : fr + 1 ≤ M.2.2.2.1) (hlo : 8 + (maxL + 11) + lo ≤ M.2.2.2.2.1) (hcs : cs.1 + mc ≤ M.2.2.2.2.2.2.2.1 ∧ cs.2 + ms ≤ M.2.2.2.2.2.2.2.2) (hcs' : (cs.1 + mc, cs.2 + ms) = cs')
    (hct : ∀ (r : Int32) (h' : zHp), cF = some (r, h') → zCt y (.code y bytes maxL ret) fr lo mc ms (.ref b :: As) h (some (.int r)) h')
    (kk : ∀ (r : Int32) (h1 : zHp), zG X M cs' pc' lv (.int r :: rest) h1 (k r h1) K) : zG X M cs pc lv st h (zbd (zcv ci b h cF) k) K :=
  zg_cV (rv := fun r => some (.int r)) cs' hd hC hyc hw hi hs hst hn hcat hf hlo hcs hcs' hct kk
theorem zg_cVl {i n ci fr lo mc ms maxL : Nat} {y : MethodName} {bytes : ByteArray} {ret : Option FieldType} {b : Nat} {As rest : List Value} {cF : Option (Int64 × zHp)} {k : Int64 → zHp → Option (α × zHp)} {C : String} {T : u_T} {N : Nat} {ty : Nat → FieldType} (cs' : Nat × Nat)
    (hd : zDc M pc (.invokevirtual i) 3 pc') (hC : zCl ci C T N ty) (hyc : y.cls = C) (hw : zCw M.1 i y bytes maxL ret n) (hi : Cond.instanceMethod y ∈ zT) (hs : Cond.selects C y y ∈ zT) (hst : st = As.reverse ++ .ref b :: rest) (hn : As.length = n) (hcat : (rest.map fun v => v.category).sum ≤ 8)
    (hf : fr + 1 ≤ M.2.2.2.1) (hlo : 8 + (maxL + 11) + lo ≤ M.2.2.2.2.1) (hcs : cs.1 + mc ≤ M.2.2.2.2.2.2.2.1 ∧ cs.2 + ms ≤ M.2.2.2.2.2.2.2.2) (hcs' : (cs.1 + mc, cs.2 + ms) = cs')
    (hct : ∀ (r : Int64) (h' : zHp), cF = some (r, h') → zCt y (.code y bytes maxL ret) fr lo mc ms (.ref b :: As) h (some (.long r)) h')
    (kk : ∀ (r : Int64) (h1 : zHp), zG X M cs' pc' lv (.long r :: rest) h1 (k r h1) K) : zG X M cs pc lv st h (zbd (zcv ci b h cF) k) K :=
  zg_cV (rv := fun r => some (.long r)) cs' hd hC hyc hw hi hs hst hn hcat hf hlo hcs hcs' hct kk
theorem zg_cVr {i n ci fr lo mc ms maxL : Nat} {y : MethodName} {bytes : ByteArray} {ret : Option FieldType} {b : Nat} {As rest : List Value} {cF : Option (Nat × zHp)} {k : Nat → zHp → Option (α × zHp)} {C : String} {T : u_T} {N : Nat} {ty : Nat → FieldType} (cs' : Nat × Nat)
    (hd : zDc M pc (.invokevirtual i) 3 pc') (hC : zCl ci C T N ty) (hyc : y.cls = C) (hw : zCw M.1 i y bytes maxL ret n) (hi : Cond.instanceMethod y ∈ zT) (hs : Cond.selects C y y ∈ zT) (hst : st = As.reverse ++ .ref b :: rest) (hn : As.length = n) (hcat : (rest.map fun v => v.category).sum ≤ 8)
    (hf : fr + 1 ≤ M.2.2.2.1) (hlo : 8 + (maxL + 11) + lo ≤ M.2.2.2.2.1) (hcs : cs.1 + mc ≤ M.2.2.2.2.2.2.2.1 ∧ cs.2 + ms ≤ M.2.2.2.2.2.2.2.2) (hcs' : (cs.1 + mc, cs.2 + ms) = cs')
    (hct : ∀ (r : Nat) (h' : zHp), cF = some (r, h') → zCt y (.code y bytes maxL ret) fr lo mc ms (.ref b :: As) h (some (.ref r)) h')
    (kk : ∀ (r : Nat) (h1 : zHp), zG X M cs' pc' lv (.ref r :: rest) h1 (k r h1) K) : zG X M cs pc lv st h (zbd (zcv ci b h cF) k) K :=
  zg_cV (rv := fun r => some (.ref r)) cs' hd hC hyc hw hi hs hst hn hcat hf hlo hcs hcs' hct kk
theorem zg_cVv {i n ci fr lo mc ms maxL : Nat} {y : MethodName} {bytes : ByteArray} {ret : Option FieldType} {b : Nat} {As rest : List Value} {cF : Option (Unit × zHp)} {k : Unit → zHp → Option (α × zHp)} {C : String} {T : u_T} {N : Nat} {ty : Nat → FieldType} (cs' : Nat × Nat)
    (hd : zDc M pc (.invokevirtual i) 3 pc') (hC : zCl ci C T N ty) (hyc : y.cls = C) (hw : zCw M.1 i y bytes maxL ret n) (hi : Cond.instanceMethod y ∈ zT) (hs : Cond.selects C y y ∈ zT) (hst : st = As.reverse ++ .ref b :: rest) (hn : As.length = n) (hcat : (rest.map fun v => v.category).sum ≤ 8)
    (hf : fr + 1 ≤ M.2.2.2.1) (hlo : 8 + (maxL + 11) + lo ≤ M.2.2.2.2.1) (hcs : cs.1 + mc ≤ M.2.2.2.2.2.2.2.1 ∧ cs.2 + ms ≤ M.2.2.2.2.2.2.2.2) (hcs' : (cs.1 + mc, cs.2 + ms) = cs')
    (hct : ∀ (r : Unit) (h' : zHp), cF = some (r, h') → zCt y (.code y bytes maxL ret) fr lo mc ms (.ref b :: As) h none h')
    (kk : ∀ (r : Unit) (h1 : zHp), zG X M cs' pc' lv rest h1 (k r h1) K) : zG X M cs pc lv st h (zbd (zcv ci b h cF) k) K :=
  zg_cV (rv := fun _ => none) cs' hd hC hyc hw hi hs hst hn hcat hf hlo hcs hcs' hct kk
theorem zg_cSi {i n fr lo mc ms maxL : Nat} {y : MethodName} {bytes : ByteArray} {ret : Option FieldType} {As rest : List Value} {cF : Option (Int32 × zHp)} {k : Int32 → zHp → Option (α × zHp)} (cs' : Nat × Nat)
    (hd : zDc M pc (.invokestatic i) 3 pc') (hw : zCw M.1 i y bytes maxL ret n) (hs : Cond.static y ∈ zT) (hst : st = As.reverse ++ rest) (hn : As.length = n) (hcat : (rest.map fun v => v.category).sum ≤ 8)
    (hf : fr + 1 ≤ M.2.2.2.1) (hlo : 8 + (maxL + 11) + lo ≤ M.2.2.2.2.1) (hcs : cs.1 + mc ≤ M.2.2.2.2.2.2.2.1 ∧ cs.2 + ms ≤ M.2.2.2.2.2.2.2.2) (hcs' : (cs.1 + mc, cs.2 + ms) = cs')
    (hct : ∀ (r : Int32) (h' : zHp), cF = some (r, h') → zCt y (.code y bytes maxL ret) fr lo mc ms As h (some (.int r)) h')
    (kk : ∀ (r : Int32) (h1 : zHp), zG X M cs' pc' lv (.int r :: rest) h1 (k r h1) K) : zG X M cs pc lv st h (zbd cF k) K :=
  zg_cS (rv := fun r => some (.int r)) cs' hd hw hs hst hn hcat hf hlo hcs hcs' hct kk
theorem zg_cSl {i n fr lo mc ms maxL : Nat} {y : MethodName} {bytes : ByteArray} {ret : Option FieldType} {As rest : List Value} {cF : Option (Int64 × zHp)} {k : Int64 → zHp → Option (α × zHp)} (cs' : Nat × Nat)
    (hd : zDc M pc (.invokestatic i) 3 pc') (hw : zCw M.1 i y bytes maxL ret n) (hs : Cond.static y ∈ zT) (hst : st = As.reverse ++ rest) (hn : As.length = n) (hcat : (rest.map fun v => v.category).sum ≤ 8)
    (hf : fr + 1 ≤ M.2.2.2.1) (hlo : 8 + (maxL + 11) + lo ≤ M.2.2.2.2.1) (hcs : cs.1 + mc ≤ M.2.2.2.2.2.2.2.1 ∧ cs.2 + ms ≤ M.2.2.2.2.2.2.2.2) (hcs' : (cs.1 + mc, cs.2 + ms) = cs')
    (hct : ∀ (r : Int64) (h' : zHp), cF = some (r, h') → zCt y (.code y bytes maxL ret) fr lo mc ms As h (some (.long r)) h')
    (kk : ∀ (r : Int64) (h1 : zHp), zG X M cs' pc' lv (.long r :: rest) h1 (k r h1) K) : zG X M cs pc lv st h (zbd cF k) K :=
  zg_cS (rv := fun r => some (.long r)) cs' hd hw hs hst hn hcat hf hlo hcs hcs' hct kk
theorem zg_cSv {i n fr lo mc ms maxL : Nat} {y : MethodName} {bytes : ByteArray} {ret : Option FieldType} {As rest : List Value} {cF : Option (Unit × zHp)} {k : Unit → zHp → Option (α × zHp)} (cs' : Nat × Nat)
    (hd : zDc M pc (.invokestatic i) 3 pc') (hw : zCw M.1 i y bytes maxL ret n) (hs : Cond.static y ∈ zT) (hst : st = As.reverse ++ rest) (hn : As.length = n) (hcat : (rest.map fun v => v.category).sum ≤ 8)
    (hf : fr + 1 ≤ M.2.2.2.1) (hlo : 8 + (maxL + 11) + lo ≤ M.2.2.2.2.1) (hcs : cs.1 + mc ≤ M.2.2.2.2.2.2.2.1 ∧ cs.2 + ms ≤ M.2.2.2.2.2.2.2.2) (hcs' : (cs.1 + mc, cs.2 + ms) = cs')
    (hct : ∀ (r : Unit) (h' : zHp), cF = some (r, h') → zCt y (.code y bytes maxL ret) fr lo mc ms As h none h')
    (kk : ∀ (r : Unit) (h1 : zHp), zG X M cs' pc' lv rest h1 (k r h1) K) : zG X M cs pc lv st h (zbd cF k) K :=
  zg_cS (rv := fun _ => none) cs' hd hw hs hst hn hcat hf hlo hcs hcs' hct kk
/-! nest mates -/
def zCn (own : String) (i : Nat) (y : MethodName) (bytes : ByteArray) (maxL : Nat) (ret : Option FieldType) (n : Nat) : Prop :=
  (∀ U : State, zNe U → va_Nw (.methodLinkNest own i y RX7) U) ∧ Cond.initialized y.cls ∈ zT ∧ Cond.code y bytes maxL ret ∈ zT ∧ y.cls ≠ "java/lang/invoke/MethodHandle" ∧ y.cls ≠ "java/lang/invoke/VarHandle" ∧ (parseMethodDescriptor y.desc).map (fun d => d.parameters.length) = some n
theorem zCn.good {own : String} {i : Nat} {y : MethodName} {bytes : ByteArray} {maxL : Nat} {ret : Option FieldType} {n : Nat} (h : zCn own i y bytes maxL ret n) : GoodIn zT (Cond.code y bytes maxL ret :: zT) := by
  intro w hw
  rcases List.mem_cons.mp hw with rfl | hw
  · exact zT_good _ h.2.2.1
  · exact zT_good _ hw
theorem zg_cSNi {i n fr lo mc ms maxL : Nat} {y : MethodName} {bytes : ByteArray} {ret : Option FieldType} {As rest : List Value} {cF : Option (Int32 × zHp)} {k : Int32 → zHp → Option (α × zHp)} (cs' : Nat × Nat)
    (hd : zDc M pc (.invokestatic i) 3 pc') (hw : zCn M.1 i y bytes maxL ret n) (hs : Cond.static y ∈ zT) (hst : st = As.reverse ++ rest) (hn : As.length = n) (hcat : (rest.map fun v => v.category).sum ≤ 8)
    (hf : fr + 1 ≤ M.2.2.2.1) (hlo : 8 + (maxL + 11) + lo ≤ M.2.2.2.2.1) (hcs : cs.1 + mc ≤ M.2.2.2.2.2.2.2.1 ∧ cs.2 + ms ≤ M.2.2.2.2.2.2.2.2) (hcs' : (cs.1 + mc, cs.2 + ms) = cs')
    (hct : ∀ (r : Int32) (h' : zHp), cF = some (r, h') → zCt y (.code y bytes maxL ret) fr lo mc ms As h (some (.int r)) h')
    (kk : ∀ (r : Int32) (h1 : zHp), zG X M cs' pc' lv (.int r :: rest) h1 (k r h1) K) : zG X M cs pc lv st h (zbd cF k) K := by
  obtain ⟨hd, rfl⟩ := hd
  subst hcs' hst
  obtain ⟨p, l, e, R, s, m, args, below, meth, cd, g, Qc⟩ := X
  intro a h' hc hK hok ls H locs hv hR hS
  cases hq : cF with
  | none => rw [hq] at hc; cases hc
  | some q =>
    obtain ⟨r, h1⟩ := q
    rw [hq] at hc
    obtain ⟨hx, hbc, hml, hown, hts, hE, hlk, hret, hnm, hRf, hRl, hRc, hRs⟩ := id hok
    refine zAft (rv := some (.int r)) (h1 := h1) (va_runSN (As := As) (rest := rest) (Ts := zT) ⟨hx, hbc, hml, hown, hts⟩ (hct r h1 hq l g) ⟨va_cnB n hts hw.good rfl rfl rfl (hw.1 s hE.2.1) (hts _ hw.2.1) hw.2.2.2 ⟨by rw [hRf]; exact hf, by rw [hRl]; exact hlo⟩, hts _ hs, trivial⟩ (zPre (As := As) hE hR hS) rfl hn hv.1 rfl (lv_room hcat) hd ⟨by rw [hRc]; exact hcs.1, by rw [hRs]; exact hcs.2⟩) hS (fun H1 locs1 hR1 hS1 => ?_)
    exact kk r h1 a h' hc hK hok ls H1 locs1 hv hR1 hS1
theorem zg_cIN {i n fr lo mc ms maxL : Nat} {y : MethodName} {bytes : ByteArray} {b : Nat} {As rest : List Value} {cF : Option (Unit × zHp)} {k : Unit → zHp → Option (α × zHp)} (cs' : Nat × Nat)
    (hd : zDc M pc (.invokespecial i) 3 pc') (hw : zCn M.1 i y bytes maxL none n) (hi : Cond.instanceMethod y ∈ zT) (hy : y.name = "<init>") (hst : st = As.reverse ++ .ref b :: rest) (hn : As.length = n) (hcat : (rest.map fun v => v.category).sum ≤ 8)
    (hf : fr + 1 ≤ M.2.2.2.1) (hlo : 8 + (maxL + 11) + lo ≤ M.2.2.2.2.1) (hcs : cs.1 + mc ≤ M.2.2.2.2.2.2.2.1 ∧ cs.2 + ms ≤ M.2.2.2.2.2.2.2.2) (hcs' : (cs.1 + mc, cs.2 + ms) = cs')
    (hct : ∀ (r : Unit) (h' : zHp), cF = some (r, h') → zCt y (.code y bytes maxL none) fr lo mc ms (.ref b :: As) h none h')
    (kk : ∀ (r : Unit) (h1 : zHp), zG X M cs' pc' lv rest h1 (k r h1) K) : zG X M cs pc lv st h (zbd cF k) K := by
  obtain ⟨hd, rfl⟩ := hd
  subst hcs' hst
  obtain ⟨p, l, e, R, s, m, args, below, meth, cd, g, Qc⟩ := X
  intro a h' hc hK hok ls H locs hv hR hS
  cases hq : cF with
  | none => rw [hq] at hc; cases hc
  | some q =>
    obtain ⟨r, h1⟩ := q
    rw [hq] at hc
    obtain ⟨hx, hbc, hml, hown, hts, hE, hlk, hret, hnm, hRf, hRl, hRc, hRs⟩ := id hok
    refine zAft (rv := none) (h1 := h1) (va_runIN (b := b) (As := As) (rest := rest) (Ts := zT) ⟨hx, hbc, hml, hown, hts⟩ (hct r h1 hq l g) ⟨va_cnB n hts hw.good rfl rfl rfl (hw.1 s hE.2.1) (hts _ hw.2.1) hw.2.2.2 ⟨by rw [hRf]; exact hf, by rw [hRl]; exact hlo⟩, hy, hts _ hi⟩ (zPre (As := .ref b :: As) hE hR hS) rfl hn hv.1 rfl (lv_room hcat) hd ⟨by rw [hRc]; exact hcs.1, by rw [hRs]; exact hcs.2⟩) hS (fun H1 locs1 hR1 hS1 => ?_)
    exact kk r h1 a h' hc hK hok ls H1 locs1 hv hR1 hS1
theorem zg_getRN {ci k i : Nat} {C : String} {T : u_T} {N : Nat} {ty : Nat → FieldType} {b : Nat} {f : Nat → Option (α × zHp)} (hd : zDc M pc (.getfield i) 3 pc') (hC : zCl ci C T N ty) (hk : k < N) (hw : ∀ U : State, zNe U → va_Nw (.fieldLinkNest M.1 i (T k).1 (T k).2.1 (T k).2.2.1 RX7) U) (kk : ∀ v : Nat, zG X M cs pc' lv (.ref v :: st) h (f v) K) : zG X M cs pc lv (.ref b :: st) h (zob (zgR h b ci k) f) K := by
  obtain ⟨hd, rfl⟩ := hd
  obtain ⟨p, l, e, R, s, m, args, below, meth, cd, g, Qc⟩ := X
  intro a h' hc hK hok ls H locs hv hR hS
  cases hq : zgR h b ci k with
  | none => rw [hq] at hc; cases hc
  | some v =>
    rw [hq] at hc
    obtain ⟨fs, hb, hv1⟩ := zgR_of hq
    obtain ⟨hx, hbc, hml, hown, hts, hE, -⟩ := id hok
    exact va_getN (ws := [(b, .inr (ci, fs))]) (D := g.1) (host := RX7) hx hbc hts hC.2.1 hown hE.1 (fun j q hj => by cases j with | zero => cases hj; exact (hR.1 b _ hb).2 | succ j => cases hj) 0 rfl hC.1 k hk ((hw s hE.2.1).use rfl) (fun _ z => z) hv1 hd (kk v a h' hc hK hok ls H locs hv hR hS)
theorem zg_newa {at0 : ArrayType} {t N : Nat} {n : Int32} {ty : FieldType} {x : vp_A} {f : Nat → zHp → Option (α × zHp)} (cs' : Nat × Nat) (hd : zDc M pc (.newarray at0) 2 pc') (hw : Cond.arrayClass (newarray.typeOf at0) ∈ zT) (hty : newarray.typeOf at0 = ty) (ht : ∀ kp : Nat → ClassId, (zTy kp)[t]? = some (kp t, ty)) (hra : ∀ (U : State) (cA : ClassId), va_RA U cA ty → U.vm.findClass ("[" ++ ty.toString) = some cA) (hx0 : ∀ cA : ClassId, vp_cell cA x = arrV cA N (fun _ => defaultValue ty)) (hn : ¬ n < 0) (hN : n.toNatClampNeg = N) (hb : N * componentBytes ty ≤ 536870912) (hcs : cs.1 + 1 ≤ M.2.2.2.2.2.2.2.1 ∧ cs.2 + N ≤ M.2.2.2.2.2.2.2.2) (hcs' : (cs.1 + 1, cs.2 + N) = cs')
    (kk : ∀ (r : Nat) (h1 : zHp), zG X M cs' pc' lv (.ref r :: st) h1 (f r h1) K) : zG X M cs pc lv (.int n :: st) h (zbd (znA h t x) f) K := by
  obtain ⟨hd, rfl⟩ := hd
  subst hcs' hty
  obtain ⟨p, l, e, R, s, m, args, below, meth, cd, g, Qc⟩ := X
  intro a h' hc hK hok ls H locs hv hR hS
  obtain ⟨hx, hbc, hml, hown, hts, hE, hlk, hret, hnm, hRf, hRl, hRc, hRs⟩ := id hok
  refine va_newaK (g := F0 m pc ls (.int n :: st)) hx hbc (hts _ hw) rfl hd rfl hn hN hb (by rw [hRc]; exact hcs.1) (by rw [hRs]; exact hcs.2) rfl fun H1 cA e1 z1 o1 hAr hNm => ?_
  have hcA : cA = g.2.1 t := Option.some.inj (hNm.symm.trans (hra s _ (hE.1.2 t _ (ht g.2.1)).2))
  subst hcA
  rw [hR.2]
  exact kk h.2 _ a h' hc hK hok ls H1 locs hv (hR.nw (Nat.le_trans hE.2.2.2 hS.1) (by show H1[H.size]? = some (vp_cell _ _); rw [hx0]; exact e1) z1 o1) ⟨Nat.le_trans hS.1 (by omega), fun x q1 q2 => (o1 x (Nat.lt_of_lt_of_le q1 hS.1)).trans (hS.2.1 x q1 q2), hS.2.2⟩
theorem zcp_of {h h1 : zHp} {a b : Nat} {sp dp n : Int32} (hg : zcp h a sp b dp n = some h1) : ∃ (na nb : Nat) (f g : Nat → Int32), h.1 a = some (.inl (0, na, .inl f)) ∧ h.1 b = some (.inl (0, nb, .inl g)) ∧ ¬ sp < 0 ∧ ¬ dp < 0 ∧ ¬ n < 0 ∧ sp.toNatClampNeg + n.toNatClampNeg ≤ na ∧ dp.toNatClampNeg + n.toNatClampNeg ≤ nb ∧ h1 = zwr h b (.inl (0, nb, .inl (va_cpy f g sp.toNatClampNeg dp.toNatClampNeg n.toNatClampNeg))) := by
  unfold zcp at hg
  split at hg
  · rename_i na f nb g h1' h2'
    split at hg
    · rename_i hc
      obtain ⟨c1, c2, c3, c4, c5⟩ := hc
      cases hg
      exact ⟨na, nb, f, g, h1', h2', c1, c2, c3, c4, c5, rfl⟩
    · cases hg
  · cases hg
theorem zg_copy {i a0 b : Nat} {sp dp n : Int32} {f : zHp → Option (α × zHp)} (hd : zDc M pc (.invokestatic i) 3 pc') (hw : Cond.methodLink M.1 i arraycopyName ∈ zT) (hnat : Cond.native arraycopyName ∈ zT) (hsta : Cond.static arraycopyName ∈ zT) (hini : Cond.initialized "java/lang/System" ∈ zT) (hf : 1 ≤ M.2.2.2.1) (hlo : (st.map fun v => v.category).sum + (nativeFrameWords "java/lang/System" "arraycopy" 5 + 11) ≤ M.2.2.2.2.1) (kk : ∀ h1 : zHp, zG X M cs pc' lv st h1 (f h1) K) : zG X M cs pc lv (.int n :: .int dp :: .ref b :: .int sp :: .ref a0 :: st) h (zob (zcp h a0 sp b dp n) f) K := by
  obtain ⟨hd, rfl⟩ := hd
  obtain ⟨p, l, e, R, s, m, args, below, meth, cd, g, Qc⟩ := X
  intro a h' hc hK hok ls H locs hv hR hS
  cases hq : zcp h a0 sp b dp n with
  | none => rw [hq] at hc; cases hc
  | some h1 =>
    rw [hq] at hc
    obtain ⟨na, nb, ff, gg, ha, hb, h1', h2', h3', h4', h5', rfl⟩ := zcp_of hq
    obtain ⟨hx, hbc, hml, hown, hts, hE, hlk, hret, hnm, hRf, hRl, hRc, hRs⟩ := id hok
    have nn : ∀ z : Int32, ¬ z < 0 → z.toInt = (z.toNatClampNeg : Int) := by
      intro z hz
      have hz0 : (0 : Int) ≤ z.toInt := by
        have := Int32.not_lt.mp hz
        simpa using Int32.le_iff_toInt_le.mp this
      show z.toInt = ((z.toInt.toNat : Nat) : Int)
      omega
    have ca : H[a0]? = some (vp_cell (g.2.1 0) (na, .inl ff)) := (hR.1 a0 _ ha).2
    have cb : H[b]? = some (vp_cell (g.2.1 0) (nb, .inl gg)) := (hR.1 b _ hb).2
    obtain ⟨-, k0, hk0, cm0, hkk0⟩ := (hE.1.2 0 _ rfl).1 na (fun j => .int (ff j))
    intro T hT Xs
    obtain ⟨vm', X', step⟩ := Xs.arraycopy hx hown (hts _ hw) (hts _ hnat) (hts _ hsta) (hts _ hini) (src := a0) (dst := b) (cs := vp_cell (g.2.1 0) (na, .inl ff)) (cd := vp_cell (g.2.1 0) (nb, .inl gg)) (srcPos := sp) (destPos := dp) (n := n) (by rw [hT]; exact ca) (by rw [hT]; exact cb)
      (fun _ z => by cases z) (fun _ z => by cases z) (fun z => by cases z) (fun z => by cases z) hk0 hk0 hkk0 hkk0 (by simp [refKind]) h1' h2' h3'
      (by rw [nn sp h1', nn n h3']; show ¬ _ > ((arrV (g.2.1 0) na (fun j => .int (ff j))).slots.size : Int); rw [arrV_size]; omega)
      (by rw [nn dp h2', nn n h3']; show ¬ _ > ((arrV (g.2.1 0) nb (fun j => .int (gg j))).slots.size : Int); rw [arrV_size]; omega)
      (fun vm₁ _ i hi => by
        have e : (vp_cell (g.2.1 0) (na, .inl ff)).slots.getD (sp.toNatClampNeg + i) .null = .int (ff (sp.toNatClampNeg + i)) := by
          show (arrV (g.2.1 0) na (fun j => .int (ff j))).slots.getD _ _ = _
          rw [Array.getD_eq_getD_getElem?, arrV_read _ _ (by omega)]
          rfl
        refine ⟨?_, ?_⟩
        · rw [e]; rfl
        · rw [e]; exact trivial)
      (g := F0 m pc ls (.int n :: .int dp :: .ref b :: .int sp :: .ref a0 :: st)) rfl (hv.1.trans hml.symm) (rest := st) rfl (by rw [hbc]; exact hd) (by rw [hRf]; exact hf) (by rw [hRl]; show 2 * 0 + _ + _ ≤ _; omega)
    have e1 : copied (vp_cell (g.2.1 0) (na, .inl ff)) (vp_cell (g.2.1 0) (nb, .inl gg)) sp dp n = vp_cell (g.2.1 0) (nb, .inl (va_cpy ff gg sp.toNatClampNeg dp.toNatClampNeg n.toNatClampNeg)) := va_copied (fun z => .int z) (g.2.1 0) (g.2.1 0) ff gg h4'
    rw [e1] at X' step
    have hl : b < H.size := (Array.getElem?_eq_some_iff.mp cb).1
    have oq : ∀ q : Nat, q ≠ b → (H.setIfInBounds b (vp_cell (g.2.1 0) (nb, .inl (va_cpy ff gg sp.toNatClampNeg dp.toNatClampNeg n.toNatClampNeg))))[q]? = H[q]? := fun q hq => by simp [Array.getElem?_setIfInBounds, Ne.symm hq]
    have hheap : ((T.setVm vm').setCell b (vp_cell (g.2.1 0) (nb, .inl (va_cpy ff gg sp.toNatClampNeg dp.toNatClampNeg n.toNatClampNeg)))).heap = H.setIfInBounds b (vp_cell (g.2.1 0) (nb, .inl (va_cpy ff gg sp.toNatClampNeg dp.toNatClampNeg n.toNatClampNeg))) := by rw [← hT]; rfl
    obtain ⟨t, a1, b1⟩ := kk _ a h' hc hK hok ls _ _ hv (hR.wr hb (show (H.setIfInBounds b _)[b]? = some _ by simp [Array.getElem?_setIfInBounds, hl]) (by simp) oq) ⟨by simp; exact hS.1, fun q g1 g2 => by
        rw [oq q (fun z => g2 (by rw [z]; exact (hR.1 b _ hb).1))]
        exact hS.2.1 q g1 g2, fun q hq => by
        rcases List.mem_append.mp hq with z | z
        · exact hS.2.2 q z
        · obtain ⟨w, -, hz⟩ := List.mem_map.mp z
          rw [← hz]
          exact (hR.1 b _ hb).1⟩ _ hheap X'
    exact ⟨t, step t a1, b1⟩
end ZK
def zLF : Nat := 100000

/-! the JDK's String on our two texts -/
def zgl (X : zCx) : zGl := X.2.2.2.2.2.2.2.2.2.2.1
abbrev zsr (X : zCx) (k : Nat) : Nat := (zgl X).2.2.2.1 k
abbrev zsv (X : zCx) (k : Nat) : Nat := (zgl X).2.2.2.2 k
def zch (k i : Nat) : Int32 := ((zBs.getD k []).getD i 0) &&& 255
def zco (k : Nat) (i : Int32) : Option Int32 := if i < 0 ∨ zLn.getD k 0 ≤ i.toNatClampNeg then none else some (zch k i.toNatClampNeg)
def zCtS (y : MethodName) (cw : Cond) (fr lo : Nat) (As : zGl → List Value) (rv : Option Value) : Prop :=
  ∀ (l : Launch) (g : zGl) (h : zHp), Met l y (cw :: zT) { frames := fr, cells := 0, slots := 0, locals := lo } (zPc g (As g) h) (zQc g rv h) 0 0 (fun q => g.2.2.1 ≤ q)
theorem zctS_of (own : String) (cc : ByteArray) (nL fr lo : Nat) (ret : Option FieldType) (nm : String) (y : MethodName) (hy : plainName y.cls = true) (h1 : own = y.cls) (h2 : nm = y.name) (As : zGl → List Value) (hlen : ∀ g, (lg_sl (As g)).length ≤ nL) (rv : Option Value)
    (body : ∀ (X : zCx) (h : zHp), zG X (own, cc, nL, fr, lo, ret, nm, 0, 0) (0, 0) 0 (lv_args 0 (As (zgl X))) [] h (some ((), h)) (fun (_ : Unit) h' => zKe X rv h')) : zCtS y (.code y cc nL ret) fr lo As rv := by
  intro l g h
  refine Met.ofW (cc := cc) (maxL := nL) (ret := ret) hy rfl ?_
  intro p e s m args below meth c0 s₁ B hml hP
  obtain ⟨rfl, hR, hE⟩ := hP
  have hown : s.vm.findClass y.cls = some m.cls := findClass_of_methodNamed B.named
  have hts := atoms_spec B.pre
  have hl := lv_entry (As g) (n := nL) (hlen g)
  rw [lg_entry_eq]
  exact body (p, l, e, _, s, m, (As g).toArray, below, meth, c0, g, zQc g rv h) h () h rfl (fun t hr hf => ⟨rfl, hr, hf⟩) ⟨B.exec, B.bytes, hml, by rw [h1]; exact hown, fun w hw => hts w (List.mem_cons_of_mem _ hw), hE, B.notSynchronized, B.returns, by rw [h2]; exact (name_of_methodNamed B.named B.method).1, rfl, rfl, rfl, rfl⟩ _ s.heap [] hl hR va_S.rf
section ZS
variable {α β ε ρ σ : Type} {X : zCx} {M : zMt} {cs : Nat × Nat} {pc pc' : Nat} {lv : List (Nat × Value)} {st : List Value} {h : zHp} {c : Option (α × zHp)} {K : α → zHp → Prop}
theorem zg_ifF {p : Prop} [Decidable p] {c1 c2 : Option (α × zHp)} (hn : ¬ p) (k : zG X M cs pc lv st h (if p then c1 else c2) K) : zG X M cs pc lv st h c2 K := by rwa [if_neg hn] at k
theorem zg_ifT {p : Prop} [Decidable p] {c1 c2 : Option (α × zHp)} (hn : p) (k : zG X M cs pc lv st h (if p then c1 else c2) K) : zG X M cs pc lv st h c1 K := by rwa [if_pos hn] at k
theorem zg_cSS {i n fr lo maxL : Nat} {y : MethodName} {bytes : ByteArray} {ret : Option FieldType} {As' : zGl → List Value} {As rest : List Value} {rv : Option Value} (hd : zDc M pc (.invokestatic i) 3 pc') (hw : zCw M.1 i y bytes maxL ret n) (hs : Cond.static y ∈ zT) (hst : st = As.reverse ++ rest) (hn : As.length = n) (hcat : (rest.map fun v => v.category).sum ≤ 8)
    (hf : fr + 1 ≤ M.2.2.2.1) (hlo : 8 + (maxL + 11) + lo ≤ M.2.2.2.2.1) (hcs : cs.1 ≤ M.2.2.2.2.2.2.2.1 ∧ cs.2 ≤ M.2.2.2.2.2.2.2.2) (hAs : As' (zgl X) = As) (hct : zCtS y (.code y bytes maxL ret) fr lo As' rv) (k : zG X M cs pc' lv (rv.toList ++ rest) h c K) : zG X M cs pc lv st h c K := by
  obtain ⟨hd, rfl⟩ := hd
  subst hst hAs
  obtain ⟨p, l, e, R, s, m, args, below, meth, cd, g, Qc⟩ := X
  intro a h' hc hK hok ls H locs hv hR hS
  obtain ⟨hx, hbc, hml, hown, hts, hE, hlk, hret, hnm, hRf, hRl, hRc, hRs⟩ := id hok
  refine zAft (cs := cs) (mc := 0) (ms := 0) (rv := rv) (h1 := h) (va_runS (As := As' g) (rest := rest) (Ts := zT) ⟨hx, hbc, hml, hown, hts⟩ (hct l g h) ⟨hw.B hts (by rw [hRf]; exact hf) (by rw [hRl]; exact hlo), hts _ hs⟩ (zPre (As := As' g) hE hR hS) rfl hn hv.1 rfl (lv_room hcat) hd ⟨by rw [hRc]; exact hcs.1, by rw [hRs]; exact hcs.2⟩) hS (fun H1 locs1 hR1 hS1 => ?_)
  exact k a h' hc hK hok ls H1 locs1 hv hR1 hS1
theorem zg_cVS {i n fr lo maxL j : Nat} {y : MethodName} {bytes : ByteArray} {ret : Option FieldType} {As' : zGl → List Value} {As rest : List Value} {rv : Option Value} (hj : j < 2) (hd : zDc M pc (.invokevirtual i) 3 pc') (hw : zCw M.1 i y bytes maxL ret n) (hi : Cond.instanceMethod y ∈ zT) (hs : Cond.selects "java/lang/String" y y ∈ zT) (hst : st = As.reverse ++ .ref (zsr X j) :: rest) (hn : As.length = n) (hcat : (rest.map fun v => v.category).sum ≤ 8)
    (hf : fr + 1 ≤ M.2.2.2.1) (hlo : 8 + (maxL + 11) + lo ≤ M.2.2.2.2.1) (hcs : cs.1 ≤ M.2.2.2.2.2.2.2.1 ∧ cs.2 ≤ M.2.2.2.2.2.2.2.2) (hAs : As' (zgl X) = .ref (zsr X j) :: As) (hct : zCtS y (.code y bytes maxL ret) fr lo As' rv) (k : zG X M cs pc' lv (rv.toList ++ rest) h c K) : zG X M cs pc lv st h c K := by
  obtain ⟨hd, rfl⟩ := hd
  subst hst
  obtain ⟨p, l, e, R, s, m, args, below, meth, cd, g, Qc⟩ := X
  intro a h' hc hK hok ls H locs hv hR hS
  obtain ⟨hx, hbc, hml, hown, hts, hE, hlk, hret, hnm, hRf, hRl, hRc, hRs⟩ := id hok
  have hAs2 : As' g = .ref (g.2.2.2.1 j) :: As := hAs
  have hpre := zPre (As := As' g) hE hR hS
  have hM := hct l g h
  rw [hAs2] at hpre hM
  refine zAft (cs := cs) (mc := 0) (ms := 0) (rv := rv) (h1 := h) (va_runV (C := "java/lang/String") (b := g.2.2.2.1 j) (As := As) (rest := rest) (Ts := zT) ⟨hx, hbc, hml, hown, hts⟩ hM ⟨hw.B hts (by rw [hRf]; exact hf) (by rw [hRl]; exact hlo), hts _ hi, hts _ hs⟩ ⟨hpre.1, vk_recv hE.2.2.1.1 hj hS, hpre.2⟩ rfl hn hv.1 rfl (lv_room hcat) hd ⟨by rw [hRc]; exact hcs.1, by rw [hRs]; exact hcs.2⟩) hS (fun H1 locs1 hR1 hS1 => ?_)
  exact k a h' hc hK hok ls H1 locs1 hv hR1 hS1
theorem zg_getsC {i : Nat} (hd : zDc M pc (.getstatic i) 3 pc') (hw : Cond.fieldLink M.1 i "java/lang/String" "COMPACT_STRINGS" "Z" ∈ zT) (k : zG X M cs pc' lv (.int 1 :: st) h c K) : zG X M cs pc lv st h c K := by
  obtain ⟨hd, rfl⟩ := hd
  obtain ⟨p, l, e, R, s, m, args, below, meth, cd, g, Qc⟩ := X
  intro a h' hc hK hok ls H locs hv hR hS
  obtain ⟨hx, hbc, hml, hown, hts, hE, -⟩ := id hok
  exact va_gets hx hbc hE.2.2.1.2.2.2.1 hS hown (hts _ hw) (fun _ z => z) hd (k a h' hc hK hok ls H locs hv hR hS)
theorem zg_getsQ {i : Nat} (hd : zDc M pc (.getstatic i) 3 pc') (hw : Cond.fieldLink M.1 i "jdk/internal/util/Preconditions" "SIOOBE_FORMATTER" "Ljava/util/function/BiFunction;" ∈ zT) (k : ∀ v : Value, (v = .null ∨ ∃ t, v = .ref t) → zG X M cs pc' lv (v :: st) h c K) : zG X M cs pc lv st h c K := by
  obtain ⟨hd, rfl⟩ := hd
  obtain ⟨p, l, e, R, s, m, args, below, meth, cd, g, Qc⟩ := X
  intro a h' hc hK hok ls H locs hv hR hS
  obtain ⟨hx, hbc, hml, hown, hts, hE, -⟩ := id hok
  rcases hE.2.2.1.2.2.2.2 with z | ⟨t, z⟩
  · exact va_gets hx hbc z hS hown (hts _ hw) (fun _ z => z) hd (k _ (Or.inl rfl) a h' hc hK hok ls H locs hv hR hS)
  · exact va_gets hx hbc z hS hown (hts _ hw) (fun _ z => z) hd (k _ (Or.inr ⟨t, rfl⟩) a h' hc hK hok ls H locs hv hR hS)
theorem zg_strC {i j : Nat} (hj : j < 2) (hd : zDc M pc (.getfield i) 3 pc') (hw : Cond.fieldLink M.1 i "java/lang/String" "coder" "B" ∈ zT) (k : zG X M cs pc' lv (.int 0 :: st) h c K) : zG X M cs pc lv (.ref (zsr X j) :: st) h c K := by
  obtain ⟨hd, rfl⟩ := hd
  obtain ⟨p, l, e, R, s, m, args, below, meth, cd, g, Qc⟩ := X
  intro a h' hc hK hok ls H locs hv hR hS
  obtain ⟨hx, hbc, hml, hown, hts, hE, -⟩ := id hok
  exact vk_getf hx hbc (hE.2.2.1.1.1 j hj).2.1 hS hown (hts _ hw) (fun _ z => z) hd (k a h' hc hK hok ls H locs hv hR hS)
theorem zg_strV {i j : Nat} (hj : j < 2) (hd : zDc M pc (.getfield i) 3 pc') (hw : Cond.fieldLink M.1 i "java/lang/String" "value" "[B" ∈ zT) (k : zG X M cs pc' lv (.ref (zsv X j) :: st) h c K) : zG X M cs pc lv (.ref (zsr X j) :: st) h c K := by
  obtain ⟨hd, rfl⟩ := hd
  obtain ⟨p, l, e, R, s, m, args, below, meth, cd, g, Qc⟩ := X
  intro a h' hc hK hok ls H locs hv hR hS
  obtain ⟨hx, hbc, hml, hown, hts, hE, -⟩ := id hok
  exact vk_getf hx hbc (hE.2.2.1.1.1 j hj).2.2.1 hS hown (hts _ hw) (fun _ z => z) hd (k a h' hc hK hok ls H locs hv hR hS)
theorem zg_strL {j : Nat} (hj : j < 2) (hd : zDc M pc .arraylength 1 pc') (k : zG X M cs pc' lv (.int (Int32.ofNat (zLn.getD j 0)) :: st) h c K) : zG X M cs pc lv (.ref (zsv X j) :: st) h c K := by
  obtain ⟨hd, rfl⟩ := hd
  obtain ⟨p, l, e, R, s, m, args, below, meth, cd, g, Qc⟩ := X
  intro a h' hc hK hok ls H locs hv hR hS
  obtain ⟨hx, hbc, hml, hown, hts, hE, -⟩ := id hok
  obtain ⟨cell, h1, h2, h3, h4, h5, h6, h7⟩ := ((hE.2.2.1.1.1 j hj).2.2.2).kept hS.2.1
  exact W.alen (g := F0 m pc ls (.ref (g.2.2.2.2 j) :: st)) hx hbc h1 h2 h5 rfl rfl hd (k a h' hc hK hok ls H locs hv hR hS)
theorem zg_strB {j : Nat} {i : Int32} (hj : j < 2) (hin : vp_in i (zLn.getD j 0)) (hd : zDc M pc .baload 1 pc') (k : zG X M cs pc' lv (.int ((zBs.getD j []).getD i.toNatClampNeg 0) :: st) h c K) : zG X M cs pc lv (.int i :: .ref (zsv X j) :: st) h c K := by
  obtain ⟨hd, rfl⟩ := hd
  obtain ⟨p, l, e, R, s, m, args, below, meth, cd, g, Qc⟩ := X
  intro a h' hc hK hok ls H locs hv hR hS
  obtain ⟨hx, hbc, hml, hown, hts, hE, -⟩ := id hok
  obtain ⟨cell, h1, h2, h3, h4, h5, h6, h7⟩ := ((hE.2.2.1.1.1 j hj).2.2.2).kept hS.2.1
  have hlt : i.toNatClampNeg < zLn.getD j 0 := Nat.not_le.mp fun q => hin (Or.inr q)
  exact W.bald (g := F0 m pc ls (.int i :: .ref (g.2.2.2.2 j) :: st)) hx hbc h1 h2 h3 (fun q => hin (q.elim Or.inl (fun q => Or.inr (Nat.le_trans h4 q)))) (h6 _ hlt) rfl rfl hd (k a h' hc hK hok ls H locs hv hR hS)
theorem zg_i2c {x v : Int32} (hv0 : (x.toUInt32 % 65536).toInt32 = v) (hd : zDc M pc .i2c 1 pc') (k : zG X M cs pc' lv (.int v :: st) h c K) : zG X M cs pc lv (.int x :: st) h c K := by
  obtain ⟨hd, rfl⟩ := hd
  obtain ⟨p, l, e, R, s, m, args, below, meth, cd, g, Qc⟩ := X
  intro a h' hc hK hok ls H locs hv hR hS
  exact lv_i2c hok.1 hok.2.1 hd hv0 (k a h' hc hK hok ls H locs hv hR hS)
theorem zg_xret {v : Int32} {b : α} {ty : FieldType} (hd : zDc M pc .ireturn 1 pc') (hr : M.2.2.2.2.2.1 = some ty) (hn : narrow ty (.int v) = .int v) (hcs : cs.1 ≤ M.2.2.2.2.2.2.2.1 ∧ cs.2 ≤ M.2.2.2.2.2.2.2.2) (hk : K b h → zKe X (some (.int v)) h) : zG X M cs pc lv [.int v] h (some (b, h)) K := by
  obtain ⟨hd, rfl⟩ := hd
  obtain ⟨p, l, e, R, s, m, args, below, meth, cd, g, Qc⟩ := X
  intro a h' hc hK hok ls H locs hv hR hS
  cases hc
  obtain ⟨hx, hbc, hml, hown, hts, hE, hlk, hret, -⟩ := id hok
  refine W.widen hcs.1 hcs.2 (W.zret (ty := ty) hx hbc (hret.trans hr) hn (fun t ht hW => hk hK t (by rw [ht]; exact hR) (hS.F ht)) hS.2.2 hd hlk)
theorem zg_ldc0 (hM : M.1 = RX4) (hd : zDc M pc (.ldc 36) 2 pc') (k : zG X M cs pc' lv (.ref (zsr X 0) :: st) h c K) : zG X M cs pc lv st h c K := by
  obtain ⟨hd, rfl⟩ := hd
  obtain ⟨p, l, e, R, s, m, args, below, meth, cd, g, Qc⟩ := X
  intro a h' hc hK hok ls H locs hv hR hS
  obtain ⟨hx, hbc, hml, hown, hts, hE, -⟩ := id hok
  exact va_ldcS hx hbc (by rw [← hM]; exact hown) hE.2.2.1.2.1 hd (k a h' hc hK hok ls H locs hv hR hS)
theorem zg_ldc1 (hM : M.1 = RX8) (hd : zDc M pc (.ldc 194) 2 pc') (k : zG X M cs pc' lv (.ref (zsr X 1) :: st) h c K) : zG X M cs pc lv st h c K := by
  obtain ⟨hd, rfl⟩ := hd
  obtain ⟨p, l, e, R, s, m, args, below, meth, cd, g, Qc⟩ := X
  intro a h' hc hK hok ls H locs hv hR hS
  obtain ⟨hx, hbc, hml, hown, hts, hE, -⟩ := id hok
  exact va_ldcS hx hbc (by rw [← hM]; exact hown) hE.2.2.1.2.2.1 hd (k a h' hc hK hok ls H locs hv hR hS)
end ZS
theorem js_0 : Cond.fieldLink RJ0 38 "java/lang/String" "COMPACT_STRINGS" "Z" ∈ zT := zw_of _ 309 (by decide +kernel) (by decide +kernel)
theorem js_1 : Cond.fieldLink RJ0 1053 "jdk/internal/util/Preconditions" "SIOOBE_FORMATTER" "Ljava/util/function/BiFunction;" ∈ zT := zw_of _ 317 (by decide +kernel) (by decide +kernel)
theorem js_2 : Cond.fieldLink RJ0 15 "java/lang/String" "coder" "B" ∈ zT := zw_of _ 2066 (by decide +kernel) (by decide +kernel)
theorem js_3 : Cond.fieldLink RJ0 9 "java/lang/String" "value" "[B" ∈ zT := zw_of _ 2067 (by decide +kernel) (by decide +kernel)
theorem js_i0 : Cond.initialized RJ0 ∈ zT := zw_of _ 127 (by decide +kernel) (by decide +kernel)
theorem js_i1 : Cond.initialized RJ1 ∈ zT := zw_of _ 128 (by decide +kernel) (by decide +kernel)
theorem js_i3 : Cond.initialized RJ3 ∈ zT := zw_of _ 129 (by decide +kernel) (by decide +kernel)
theorem jc_charAt : Cond.code yJ0_charAt_5068e cJ0_charAt_5068e 2 (some .char) ∈ zT := zw_of _ 304 (by decide +kernel) (by decide +kernel)
theorem ji_charAt : Cond.instanceMethod yJ0_charAt_5068e ∈ zT := zw_of _ 302 (by decide +kernel) (by decide +kernel)
theorem jl_charAt : Cond.selects "java/lang/String" yJ0_charAt_5068e yJ0_charAt_5068e ∈ zT := zw_of _ 303 (by decide +kernel) (by decide +kernel)
theorem jc_length : Cond.code yJ0_length_8abf5 cJ0_length_8abf5 1 (some .int) ∈ zT := zw_of _ 1599 (by decide +kernel) (by decide +kernel)
theorem ji_length : Cond.instanceMethod yJ0_length_8abf5 ∈ zT := zw_of _ 1597 (by decide +kernel) (by decide +kernel)
theorem jl_length : Cond.selects "java/lang/String" yJ0_length_8abf5 yJ0_length_8abf5 ∈ zT := zw_of _ 1598 (by decide +kernel) (by decide +kernel)
theorem jc_isLatin1 : Cond.code yJ0_isLatin1_aae02 cJ0_isLatin1_aae02 1 (some .boolean) ∈ zT := zw_of _ 308 (by decide +kernel) (by decide +kernel)
theorem ji_isLatin1 : Cond.instanceMethod yJ0_isLatin1_aae02 ∈ zT := zw_of _ 306 (by decide +kernel) (by decide +kernel)
theorem jl_isLatin1 : Cond.selects "java/lang/String" yJ0_isLatin1_aae02 yJ0_isLatin1_aae02 ∈ zT := zw_of _ 307 (by decide +kernel) (by decide +kernel)
theorem jc_coder : Cond.code yJ0_coder_7d493 cJ0_coder_7d493 1 (some .byte) ∈ zT := zw_of _ 1603 (by decide +kernel) (by decide +kernel)
theorem ji_coder : Cond.instanceMethod yJ0_coder_7d493 ∈ zT := zw_of _ 1601 (by decide +kernel) (by decide +kernel)
theorem jl_coder : Cond.selects "java/lang/String" yJ0_coder_7d493 yJ0_coder_7d493 ∈ zT := zw_of _ 1602 (by decide +kernel) (by decide +kernel)
theorem jc_ci0 : Cond.code yJ0_checkIndex_df160 cJ0_checkIndex_df160 2 none ∈ zT := zw_of _ 316 (by decide +kernel) (by decide +kernel)
theorem jt_ci0 : Cond.static yJ0_checkIndex_df160 ∈ zT := zw_of _ 315 (by decide +kernel) (by decide +kernel)
theorem jc_ci3 : Cond.code yJ3_checkIndex_8e157 cJ3_checkIndex_8e157 3 (some .int) ∈ zT := zw_of _ 321 (by decide +kernel) (by decide +kernel)
theorem jt_ci3 : Cond.static yJ3_checkIndex_8e157 ∈ zT := zw_of _ 320 (by decide +kernel) (by decide +kernel)
theorem jc_lc : Cond.code yJ1_charAt_3b067 cJ1_charAt_3b067 2 (some .char) ∈ zT := zw_of _ 313 (by decide +kernel) (by decide +kernel)
theorem jt_lc : Cond.static yJ1_charAt_3b067 ∈ zT := zw_of _ 312 (by decide +kernel) (by decide +kernel)
theorem jw_X4_38_l : Cond.methodLink RX4 38 yJ0_charAt_5068e ∈ zT := zw_of _ 301 (by decide +kernel) (by decide +kernel)
theorem jw_X4_38 : zCw RX4 38 yJ0_charAt_5068e cJ0_charAt_5068e 2 (some .char) 1 := ⟨jw_X4_38_l, js_i0, jc_charAt, by decide, by decide, by decide +kernel⟩
theorem jw_X8_201_l : Cond.methodLink RX8 201 yJ0_charAt_5068e ∈ zT := zw_of _ 1604 (by decide +kernel) (by decide +kernel)
theorem jw_X8_201 : zCw RX8 201 yJ0_charAt_5068e cJ0_charAt_5068e 2 (some .char) 1 := ⟨jw_X8_201_l, js_i0, jc_charAt, by decide, by decide, by decide +kernel⟩
theorem jw_X8_196_l : Cond.methodLink RX8 196 yJ0_length_8abf5 ∈ zT := zw_of _ 1596 (by decide +kernel) (by decide +kernel)
theorem jw_X8_196 : zCw RX8 196 yJ0_length_8abf5 cJ0_length_8abf5 1 (some .int) 0 := ⟨jw_X8_196_l, js_i0, jc_length, by decide, by decide, by decide +kernel⟩
theorem jw_J0_492_l : Cond.methodLink RJ0 492 yJ0_isLatin1_aae02 ∈ zT := zw_of _ 305 (by decide +kernel) (by decide +kernel)
theorem jw_J0_492 : zCw RJ0 492 yJ0_isLatin1_aae02 cJ0_isLatin1_aae02 1 (some .boolean) 0 := ⟨jw_J0_492_l, js_i0, jc_isLatin1, by decide, by decide, by decide +kernel⟩
theorem jw_J0_335_l : Cond.methodLink RJ0 335 yJ0_coder_7d493 ∈ zT := zw_of _ 1600 (by decide +kernel) (by decide +kernel)
theorem jw_J0_335 : zCw RJ0 335 yJ0_coder_7d493 cJ0_coder_7d493 1 (some .byte) 0 := ⟨jw_J0_335_l, js_i0, jc_coder, by decide, by decide, by decide +kernel⟩
theorem jw_J0_495_l : Cond.methodLink RJ0 495 yJ1_charAt_3b067 ∈ zT := zw_of _ 311 (by decide +kernel) (by decide +kernel)
theorem jw_J0_495 : zCw RJ0 495 yJ1_charAt_3b067 cJ1_charAt_3b067 2 (some .char) 2 := ⟨jw_J0_495_l, js_i1, jc_lc, by decide, by decide, by decide +kernel⟩
theorem jw_J1_9_l : Cond.methodLink RJ1 9 yJ0_checkIndex_df160 ∈ zT := zw_of _ 314 (by decide +kernel) (by decide +kernel)
theorem jw_J1_9 : zCw RJ1 9 yJ0_checkIndex_df160 cJ0_checkIndex_df160 2 none 2 := ⟨jw_J1_9_l, js_i0, jc_ci0, by decide, by decide, by decide +kernel⟩
theorem jw_J0_1059_l : Cond.methodLink RJ0 1059 yJ3_checkIndex_8e157 ∈ zT := zw_of _ 319 (by decide +kernel) (by decide +kernel)
theorem jw_J0_1059 : zCw RJ0 1059 yJ3_checkIndex_8e157 cJ3_checkIndex_8e157 3 (some .int) 3 := ⟨jw_J0_1059_l, js_i3, jc_ci3, by decide, by decide, by decide +kernel⟩
abbrev M_ci3 : zMt := (RJ3, cJ3_checkIndex_8e157, 3, 1, 60, (some .int), "checkIndex", 0, 0)
theorem e_ci3_0 : zDc M_ci3 0 (.iload_n 0) 1 1 := ⟨by decide +kernel, rfl⟩
theorem e_ci3_1 : zDj M_ci3 1 (.ifCond .lt 8) 8 4 9 := ⟨by decide +kernel, rfl, by decide⟩
theorem e_ci3_4 : zDc M_ci3 4 (.iload_n 0) 1 5 := ⟨by decide +kernel, rfl⟩
theorem e_ci3_5 : zDc M_ci3 5 (.iload_n 1) 1 6 := ⟨by decide +kernel, rfl⟩
theorem e_ci3_6 : zDj M_ci3 6 (.if_icmp .lt 10) 10 9 16 := ⟨by decide +kernel, rfl, by decide⟩
theorem e_ci3_9 : zDc M_ci3 9 (.aload_n 2) 1 10 := ⟨by decide +kernel, rfl⟩
theorem e_ci3_10 : zDc M_ci3 10 (.iload_n 0) 1 11 := ⟨by decide +kernel, rfl⟩
theorem e_ci3_11 : zDc M_ci3 11 (.iload_n 1) 1 12 := ⟨by decide +kernel, rfl⟩
theorem e_ci3_12 : zDc M_ci3 12 (.invokestatic 95) 3 15 := ⟨by decide +kernel, rfl⟩
theorem e_ci3_15 : zDc M_ci3 15 (.athrow) 1 16 := ⟨by decide +kernel, rfl⟩
theorem e_ci3_16 : zDc M_ci3 16 (.iload_n 0) 1 17 := ⟨by decide +kernel, rfl⟩
theorem e_ci3_17 : zDc M_ci3 17 (.ireturn) 1 18 := ⟨by decide +kernel, rfl⟩
theorem s_ci3 {i n : Int32} {v : Value} (hv : v = .null ∨ ∃ t, v = .ref t) (h0 : ¬ i < 0) (h1 : i < n) : zCtS yJ3_checkIndex_8e157 (.code yJ3_checkIndex_8e157 cJ3_checkIndex_8e157 3 (some .int)) 1 60 (fun _ => [.int i, .int n, v]) (some (.int i)) := by
  refine zctS_of RJ3 cJ3_checkIndex_8e157 3 1 60 (some .int) "checkIndex" yJ3_checkIndex_8e157 (by decide) rfl rfl _ (fun g => ?_) _ (fun X h => ?_)
  · rcases hv with rfl | ⟨t, rfl⟩ <;> exact Nat.le_of_ble_eq_true rfl
  show zG X M_ci3 (0, 0) 0 [(0, .int i), (1, .int n), (2, v)] [] h (some ((), h)) (fun (_ : Unit) h' => zKe X (some (.int i)) h')
  refine zg_iload_n 0 rfl e_ci3_0 ?_
  refine zg_ifF h0 (zg_if_lt e_ci3_1 zg_none ?_)
  refine zg_iload_n 0 rfl e_ci3_4 ?_
  refine zg_iload_n 1 rfl e_ci3_5 ?_
  refine zg_ifT h1 (zg_icmp_lt e_ci3_6 ?_ zg_none)
  refine zg_iload_n 0 rfl e_ci3_16 ?_
  exact zg_iretK e_ci3_17 rfl ⟨Nat.le_refl _, Nat.le_refl _⟩ (fun q => q)
abbrev M_ci0 : zMt := (RJ0, cJ0_checkIndex_df160, 2, 2, 100, none, "checkIndex", 0, 0)
theorem e_ci0_0 : zDc M_ci0 0 (.iload_n 0) 1 1 := ⟨by decide +kernel, rfl⟩
theorem e_ci0_1 : zDc M_ci0 1 (.iload_n 1) 1 2 := ⟨by decide +kernel, rfl⟩
theorem e_ci0_2 : zDc M_ci0 2 (.getstatic 1053) 3 5 := ⟨by decide +kernel, rfl⟩
theorem e_ci0_5 : zDc M_ci0 5 (.invokestatic 1059) 3 8 := ⟨by decide +kernel, rfl⟩
theorem e_ci0_8 : zDc M_ci0 8 (.pop) 1 9 := ⟨by decide +kernel, rfl⟩
theorem e_ci0_9 : zDc M_ci0 9 (.return_) 1 10 := ⟨by decide +kernel, rfl⟩
theorem s_ci0 {i n : Int32} (h0 : ¬ i < 0) (h1 : i < n) : zCtS yJ0_checkIndex_df160 (.code yJ0_checkIndex_df160 cJ0_checkIndex_df160 2 none) 2 100 (fun _ => [.int i, .int n]) none := by
  refine zctS_of RJ0 cJ0_checkIndex_df160 2 2 100 none "checkIndex" yJ0_checkIndex_df160 (by decide) rfl rfl _ (fun g => Nat.le_of_ble_eq_true rfl) _ (fun X h => ?_)
  show zG X M_ci0 (0, 0) 0 [(0, .int i), (1, .int n)] [] h (some ((), h)) (fun (_ : Unit) h' => zKe X none h')
  refine zg_iload_n 0 rfl e_ci0_0 ?_
  refine zg_iload_n 1 rfl e_ci0_1 ?_
  refine zg_getsQ e_ci0_2 js_1 (fun v hv => ?_)
  refine zg_cSS (As := [.int i, .int n, v]) (rest := []) e_ci0_5 jw_J0_1059 jt_ci3 rfl rfl (Nat.le_of_ble_eq_true rfl) (by decide) (by decide) ⟨Nat.le_refl _, Nat.le_refl _⟩ rfl (s_ci3 hv h0 h1) ?_
  show zG X M_ci0 (0, 0) 8 [(0, .int i), (1, .int n)] [.int i] h (some ((), h)) (fun (_ : Unit) h' => zKe X none h')
  refine zg_pop rfl e_ci0_8 ?_
  exact zg_vretK e_ci0_9 rfl ⟨Nat.le_refl _, Nat.le_refl _⟩ (fun q => q)
abbrev M_lc : zMt := (RJ1, cJ1_charAt_3b067, 2, 3, 140, (some .char), "charAt", 0, 0)
theorem e_lc_0 : zDc M_lc 0 (.iload_n 1) 1 1 := ⟨by decide +kernel, rfl⟩
theorem e_lc_1 : zDc M_lc 1 (.aload_n 0) 1 2 := ⟨by decide +kernel, rfl⟩
theorem e_lc_2 : zDc M_lc 2 (.arraylength) 1 3 := ⟨by decide +kernel, rfl⟩
theorem e_lc_3 : zDc M_lc 3 (.invokestatic 9) 3 6 := ⟨by decide +kernel, rfl⟩
theorem e_lc_6 : zDc M_lc 6 (.aload_n 0) 1 7 := ⟨by decide +kernel, rfl⟩
theorem e_lc_7 : zDc M_lc 7 (.iload_n 1) 1 8 := ⟨by decide +kernel, rfl⟩
theorem e_lc_8 : zDc M_lc 8 (.baload) 1 9 := ⟨by decide +kernel, rfl⟩
theorem e_lc_9 : zDc M_lc 9 (.sipush 255) 3 12 := ⟨by decide +kernel, rfl⟩
theorem e_lc_12 : zDc M_lc 12 (.iand) 1 13 := ⟨by decide +kernel, rfl⟩
theorem e_lc_13 : zDc M_lc 13 (.i2c) 1 14 := ⟨by decide +kernel, rfl⟩
theorem e_lc_14 : zDc M_lc 14 (.ireturn) 1 15 := ⟨by decide +kernel, rfl⟩
theorem s_lc {j : Nat} {i : Int32} (hj : j < 2) (hin : vp_in i (zLn.getD j 0)) : zCtS yJ1_charAt_3b067 (.code yJ1_charAt_3b067 cJ1_charAt_3b067 2 (some .char)) 3 140 (fun g => [.ref (g.2.2.2.2 j), .int i]) (some (.int (zch j i.toNatClampNeg))) := by
  have h0 : ¬ i < 0 := fun q => hin (Or.inl q)
  have h1 : i < Int32.ofNat (zLn.getD j 0) := by
    have hlen : zLn.getD j 0 < 2 ^ 31 := by rcases (show j = 0 ∨ j = 1 by omega) with rfl | rfl <;> decide
    obtain ⟨q, hq, rfl⟩ := vp_in_of hin hlen
    exact nI_lt hq hlen
  refine zctS_of RJ1 cJ1_charAt_3b067 2 3 140 (some .char) "charAt" yJ1_charAt_3b067 (by decide) rfl rfl _ (fun g => Nat.le_of_ble_eq_true rfl) _ (fun X h => ?_)
  show zG X M_lc (0, 0) 0 [(0, .ref (zsv X j)), (1, .int i)] [] h (some ((), h)) (fun (_ : Unit) h' => zKe X (some (.int (zch j i.toNatClampNeg))) h')
  refine zg_iload_n 1 rfl e_lc_0 ?_
  refine zg_aload_n 0 rfl e_lc_1 ?_
  refine zg_strL hj e_lc_2 ?_
  refine zg_cSS (As := [.int i, .int (Int32.ofNat (zLn.getD j 0))]) (rest := []) e_lc_3 jw_J1_9 jt_ci0 rfl rfl (Nat.le_of_ble_eq_true rfl) (by decide) (by decide) ⟨Nat.le_refl _, Nat.le_refl _⟩ rfl (s_ci0 h0 h1) ?_
  show zG X M_lc (0, 0) 6 [(0, .ref (zsv X j)), (1, .int i)] [] h (some ((), h)) (fun (_ : Unit) h' => zKe X (some (.int (zch j i.toNatClampNeg))) h')
  refine zg_aload_n 0 rfl e_lc_6 ?_
  refine zg_iload_n 1 rfl e_lc_7 ?_
  refine zg_strB hj hin e_lc_8 ?_
  refine zg_sipush 255 rfl e_lc_9 ?_
  refine zg_iand e_lc_12 ?_
  refine zg_i2c (sc_c2 _) e_lc_13 ?_
  exact zg_xret e_lc_14 rfl (sc_nar _) ⟨Nat.le_refl _, Nat.le_refl _⟩ (fun q => q)
abbrev M_il : zMt := (RJ0, cJ0_isLatin1_aae02, 1, 1, 60, (some .boolean), "isLatin1", 0, 0)
theorem e_il_0 : zDc M_il 0 (.getstatic 38) 3 3 := ⟨by decide +kernel, rfl⟩
theorem e_il_3 : zDj M_il 3 (.ifCond .eq 14) 14 6 17 := ⟨by decide +kernel, rfl, by decide⟩
theorem e_il_6 : zDc M_il 6 (.aload_n 0) 1 7 := ⟨by decide +kernel, rfl⟩
theorem e_il_7 : zDc M_il 7 (.getfield 15) 3 10 := ⟨by decide +kernel, rfl⟩
theorem e_il_10 : zDj M_il 10 (.ifCond .ne 7) 7 13 17 := ⟨by decide +kernel, rfl, by decide⟩
theorem e_il_13 : zDc M_il 13 (.iconst 1) 1 14 := ⟨by decide +kernel, rfl⟩
theorem e_il_14 : zDj M_il 14 (.goto 4) 4 17 18 := ⟨by decide +kernel, rfl, by decide⟩
theorem e_il_17 : zDc M_il 17 (.iconst 0) 1 18 := ⟨by decide +kernel, rfl⟩
theorem e_il_18 : zDc M_il 18 (.ireturn) 1 19 := ⟨by decide +kernel, rfl⟩
theorem s_il {j : Nat} (hj : j < 2) : zCtS yJ0_isLatin1_aae02 (.code yJ0_isLatin1_aae02 cJ0_isLatin1_aae02 1 (some .boolean)) 1 60 (fun g => [.ref (g.2.2.2.1 j)]) (some (.int 1)) := by
  refine zctS_of RJ0 cJ0_isLatin1_aae02 1 1 60 (some .boolean) "isLatin1" yJ0_isLatin1_aae02 (by decide) rfl rfl _ (fun g => Nat.le_of_ble_eq_true rfl) _ (fun X h => ?_)
  show zG X M_il (0, 0) 0 [(0, .ref (zsr X j))] [] h (some ((), h)) (fun (_ : Unit) h' => zKe X (some (.int 1)) h')
  refine zg_getsC e_il_0 js_0 ?_
  refine zg_ifF (by decide) (zg_if_eq e_il_3 zg_none ?_)
  refine zg_aload_n 0 rfl e_il_6 ?_
  refine zg_strC hj e_il_7 js_2 ?_
  refine zg_ifT rfl (zg_if_ne e_il_10 ?_ zg_none)
  refine zg_iconst 1 rfl e_il_13 ?_
  refine zg_goto e_il_14 ?_
  exact zg_zretK e_il_18 rfl ⟨Nat.le_refl _, Nat.le_refl _⟩ (Or.inr rfl) (fun q => q)
abbrev M_co : zMt := (RJ0, cJ0_coder_7d493, 1, 1, 60, (some .byte), "coder", 0, 0)
theorem e_co_0 : zDc M_co 0 (.getstatic 38) 3 3 := ⟨by decide +kernel, rfl⟩
theorem e_co_3 : zDj M_co 3 (.ifCond .eq 10) 10 6 13 := ⟨by decide +kernel, rfl, by decide⟩
theorem e_co_6 : zDc M_co 6 (.aload_n 0) 1 7 := ⟨by decide +kernel, rfl⟩
theorem e_co_7 : zDc M_co 7 (.getfield 15) 3 10 := ⟨by decide +kernel, rfl⟩
theorem e_co_10 : zDj M_co 10 (.goto 4) 4 13 14 := ⟨by decide +kernel, rfl, by decide⟩
theorem e_co_13 : zDc M_co 13 (.iconst 1) 1 14 := ⟨by decide +kernel, rfl⟩
theorem e_co_14 : zDc M_co 14 (.ireturn) 1 15 := ⟨by decide +kernel, rfl⟩
theorem s_co {j : Nat} (hj : j < 2) : zCtS yJ0_coder_7d493 (.code yJ0_coder_7d493 cJ0_coder_7d493 1 (some .byte)) 1 60 (fun g => [.ref (g.2.2.2.1 j)]) (some (.int 0)) := by
  refine zctS_of RJ0 cJ0_coder_7d493 1 1 60 (some .byte) "coder" yJ0_coder_7d493 (by decide) rfl rfl _ (fun g => Nat.le_of_ble_eq_true rfl) _ (fun X h => ?_)
  show zG X M_co (0, 0) 0 [(0, .ref (zsr X j))] [] h (some ((), h)) (fun (_ : Unit) h' => zKe X (some (.int 0)) h')
  refine zg_getsC e_co_0 js_0 ?_
  refine zg_ifF (by decide) (zg_if_eq e_co_3 zg_none ?_)
  refine zg_aload_n 0 rfl e_co_6 ?_
  refine zg_strC hj e_co_7 js_2 ?_
  refine zg_goto e_co_10 ?_
  exact zg_xret e_co_14 rfl rfl ⟨Nat.le_refl _, Nat.le_refl _⟩ (fun q => q)
abbrev M_ca : zMt := (RJ0, cJ0_charAt_5068e, 2, 4, 180, (some .char), "charAt", 0, 0)
theorem e_ca_0 : zDc M_ca 0 (.aload_n 0) 1 1 := ⟨by decide +kernel, rfl⟩
theorem e_ca_1 : zDc M_ca 1 (.invokevirtual 492) 3 4 := ⟨by decide +kernel, rfl⟩
theorem e_ca_4 : zDj M_ca 4 (.ifCond .eq 12) 12 7 16 := ⟨by decide +kernel, rfl, by decide⟩
theorem e_ca_7 : zDc M_ca 7 (.aload_n 0) 1 8 := ⟨by decide +kernel, rfl⟩
theorem e_ca_8 : zDc M_ca 8 (.getfield 9) 3 11 := ⟨by decide +kernel, rfl⟩
theorem e_ca_11 : zDc M_ca 11 (.iload_n 1) 1 12 := ⟨by decide +kernel, rfl⟩
theorem e_ca_12 : zDc M_ca 12 (.invokestatic 495) 3 15 := ⟨by decide +kernel, rfl⟩
theorem e_ca_15 : zDc M_ca 15 (.ireturn) 1 16 := ⟨by decide +kernel, rfl⟩
theorem e_ca_16 : zDc M_ca 16 (.aload_n 0) 1 17 := ⟨by decide +kernel, rfl⟩
theorem e_ca_17 : zDc M_ca 17 (.getfield 9) 3 20 := ⟨by decide +kernel, rfl⟩
theorem e_ca_20 : zDc M_ca 20 (.iload_n 1) 1 21 := ⟨by decide +kernel, rfl⟩
theorem e_ca_21 : zDc M_ca 21 (.invokestatic 498) 3 24 := ⟨by decide +kernel, rfl⟩
theorem e_ca_24 : zDc M_ca 24 (.ireturn) 1 25 := ⟨by decide +kernel, rfl⟩
theorem s_ca {j : Nat} {i : Int32} (hj : j < 2) (hin : vp_in i (zLn.getD j 0)) : zCtS yJ0_charAt_5068e (.code yJ0_charAt_5068e cJ0_charAt_5068e 2 (some .char)) 4 180 (fun g => [.ref (g.2.2.2.1 j), .int i]) (some (.int (zch j i.toNatClampNeg))) := by
  refine zctS_of RJ0 cJ0_charAt_5068e 2 4 180 (some .char) "charAt" yJ0_charAt_5068e (by decide) rfl rfl _ (fun g => Nat.le_of_ble_eq_true rfl) _ (fun X h => ?_)
  show zG X M_ca (0, 0) 0 [(0, .ref (zsr X j)), (1, .int i)] [] h (some ((), h)) (fun (_ : Unit) h' => zKe X (some (.int (zch j i.toNatClampNeg))) h')
  refine zg_aload_n 0 rfl e_ca_0 ?_
  refine zg_cVS (As := []) (rest := []) hj e_ca_1 jw_J0_492 ji_isLatin1 jl_isLatin1 rfl rfl (Nat.le_of_ble_eq_true rfl) (by decide) (by decide) ⟨Nat.le_refl _, Nat.le_refl _⟩ rfl (s_il hj) ?_
  show zG X M_ca (0, 0) 4 [(0, .ref (zsr X j)), (1, .int i)] [.int 1] h (some ((), h)) (fun (_ : Unit) h' => zKe X (some (.int (zch j i.toNatClampNeg))) h')
  refine zg_ifF (by decide) (zg_if_eq e_ca_4 zg_none ?_)
  refine zg_aload_n 0 rfl e_ca_7 ?_
  refine zg_strV hj e_ca_8 js_3 ?_
  refine zg_iload_n 1 rfl e_ca_11 ?_
  refine zg_cSS (As := [.ref (zsv X j), .int i]) (rest := []) e_ca_12 jw_J0_495 jt_lc rfl rfl (Nat.le_of_ble_eq_true rfl) (by decide) (by decide) ⟨Nat.le_refl _, Nat.le_refl _⟩ rfl (s_lc hj hin) ?_
  show zG X M_ca (0, 0) 15 [(0, .ref (zsr X j)), (1, .int i)] [.int (zch j i.toNatClampNeg)] h (some ((), h)) (fun (_ : Unit) h' => zKe X (some (.int (zch j i.toNatClampNeg))) h')
  exact zg_xret e_ca_15 rfl (sc_nar _) ⟨Nat.le_refl _, Nat.le_refl _⟩ (fun q => q)
abbrev M_le : zMt := (RJ0, cJ0_length_8abf5, 1, 2, 100, (some .int), "length", 0, 0)
theorem e_le_0 : zDc M_le 0 (.aload_n 0) 1 1 := ⟨by decide +kernel, rfl⟩
theorem e_le_1 : zDc M_le 1 (.getfield 9) 3 4 := ⟨by decide +kernel, rfl⟩
theorem e_le_4 : zDc M_le 4 (.arraylength) 1 5 := ⟨by decide +kernel, rfl⟩
theorem e_le_5 : zDc M_le 5 (.aload_n 0) 1 6 := ⟨by decide +kernel, rfl⟩
theorem e_le_6 : zDc M_le 6 (.invokevirtual 335) 3 9 := ⟨by decide +kernel, rfl⟩
theorem e_le_9 : zDc M_le 9 (.ishr) 1 10 := ⟨by decide +kernel, rfl⟩
theorem e_le_10 : zDc M_le 10 (.ireturn) 1 11 := ⟨by decide +kernel, rfl⟩
theorem s_le {j : Nat} (hj : j < 2) : zCtS yJ0_length_8abf5 (.code yJ0_length_8abf5 cJ0_length_8abf5 1 (some .int)) 2 100 (fun g => [.ref (g.2.2.2.1 j)]) (some (.int (Int32.ofNat (zLn.getD j 0)))) := by
  refine zctS_of RJ0 cJ0_length_8abf5 1 2 100 (some .int) "length" yJ0_length_8abf5 (by decide) rfl rfl _ (fun g => Nat.le_of_ble_eq_true rfl) _ (fun X h => ?_)
  show zG X M_le (0, 0) 0 [(0, .ref (zsr X j))] [] h (some ((), h)) (fun (_ : Unit) h' => zKe X (some (.int (Int32.ofNat (zLn.getD j 0)))) h')
  refine zg_aload_n 0 rfl e_le_0 ?_
  refine zg_strV hj e_le_1 js_3 ?_
  refine zg_strL hj e_le_4 ?_
  refine zg_aload_n 0 rfl e_le_5 ?_
  refine zg_cVS (As := []) (rest := [.int (Int32.ofNat (zLn.getD j 0))]) hj e_le_6 jw_J0_335 ji_coder jl_coder rfl rfl (Nat.le_of_ble_eq_true rfl) (by decide) (by decide) ⟨Nat.le_refl _, Nat.le_refl _⟩ rfl (s_co hj) ?_
  show zG X M_le (0, 0) 9 [(0, .ref (zsr X j))] [.int 0, .int (Int32.ofNat (zLn.getD j 0))] h (some ((), h)) (fun (_ : Unit) h' => zKe X (some (.int (Int32.ofNat (zLn.getD j 0)))) h')
  refine zg_ishr e_le_9 ?_
  rw [sb_shr0]
  exact zg_iretK e_le_10 rfl ⟨Nat.le_refl _, Nat.le_refl _⟩ (fun q => q)
section ZT2
variable {α : Type} {X : zCx} {M : zMt} {cs : Nat × Nat} {pc pc' : Nat} {lv : List (Nat × Value)} {st : List Value} {h : zHp} {c : Option (α × zHp)} {K : α → zHp → Prop}
theorem zg_chr {i j : Nat} {x : Int32} {f : Int32 → Option (α × zHp)} (hj : j < 2) (hd : zDc M pc (.invokevirtual i) 3 pc') (hw : zCw M.1 i yJ0_charAt_5068e cJ0_charAt_5068e 2 (some .char) 1) (hcat : (st.map fun v => v.category).sum ≤ 8) (hf : 4 + 1 ≤ M.2.2.2.1) (hlo : 8 + (2 + 11) + 180 ≤ M.2.2.2.2.1) (hcs : cs.1 ≤ M.2.2.2.2.2.2.2.1 ∧ cs.2 ≤ M.2.2.2.2.2.2.2.2) (k : ∀ v : Int32, zG X M cs pc' lv (.int v :: st) h (f v) K) : zG X M cs pc lv (.int x :: .ref (zsr X j) :: st) h (zob (zco j x) f) K := by
  by_cases hin : x < 0 ∨ zLn.getD j 0 ≤ x.toNatClampNeg
  · rw [show zco j x = none by simp only [zco]; rw [if_pos hin]]
    exact zg_none
  · rw [show zco j x = some (zch j x.toNatClampNeg) by simp only [zco]; rw [if_neg hin]]
    exact zg_cVS (As := [.int x]) (rest := st) hj hd hw ji_charAt jl_charAt rfl rfl hcat hf hlo hcs rfl (s_ca hj hin) (k _)
theorem zg_sln {i j : Nat} (hj : j < 2) (hd : zDc M pc (.invokevirtual i) 3 pc') (hw : zCw M.1 i yJ0_length_8abf5 cJ0_length_8abf5 1 (some .int) 0) (hcat : (st.map fun v => v.category).sum ≤ 8) (hf : 2 + 1 ≤ M.2.2.2.1) (hlo : 8 + (1 + 11) + 100 ≤ M.2.2.2.2.1) (hcs : cs.1 ≤ M.2.2.2.2.2.2.2.1 ∧ cs.2 ≤ M.2.2.2.2.2.2.2.2) (k : zG X M cs pc' lv (.int (Int32.ofNat (zLn.getD j 0)) :: st) h c K) : zG X M cs pc lv (.ref (zsr X j) :: st) h c K :=
  zg_cVS (As := []) (rest := st) hj hd hw ji_length jl_length rfl rfl hcat hf hlo hcs rfl (s_le hj) k
end ZT2

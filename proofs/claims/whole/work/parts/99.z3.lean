/-! what holds at the law's entry -/
theorem z_arrT {s : State} {args : Array Value} {ty : FieldType} (h : (Cond.arrayClass ty).before args s = true) (hra : ∀ cA : ClassId, s.vm.findClass ("[" ++ ty.toString) = some cA → va_RA s cA ty) : ∃ cA : ClassId, ArrOfT s cA ty ∧ va_RA s cA ty := by
  obtain ⟨cA, kA, comp, f1, f2, f3⟩ := Cond.arrayClass_spec h
  exact ⟨cA, fun n z => ⟨fun k h => (by cases h), kA, f2, comp, f3⟩, hra cA f1⟩
theorem en_K {s : State} {args : Array Value} (hts : ∀ w ∈ zT, w.before args s = true) (h4 : va_AO "CloudSchool$Sky" s) (h5 : zAA s) : ∃ (D : va_G) (kp : Nat → ClassId), va_K D vwCl (zTy kp) s := by
  obtain ⟨c0, i0, k0⟩ := u_known hts zc_0.2.1 (hts _ it_X0)
  obtain ⟨c1, i1, k1⟩ := u_known hts zc_1.2.1 (hts _ it_X1)
  obtain ⟨c2, i2, k2⟩ := u_known hts zc_2.2.1 (hts _ it_X2)
  obtain ⟨c3, i3, k3⟩ := u_known hts zc_3.2.1 (hts _ it_X3)
  obtain ⟨c4, i4, k4⟩ := u_known hts zc_4.2.1 (hts _ it_X4)
  obtain ⟨c5, i5, k5⟩ := u_known hts zc_5.2.1 (hts _ it_X5)
  obtain ⟨c6, i6, k6⟩ := u_known hts zc_6.2.1 (hts _ it_X6)
  obtain ⟨c7, i7, k7⟩ := u_known hts zc_7.2.1 (hts _ it_X7)
  obtain ⟨c8, i8, k8⟩ := u_known hts zc_8.2.1 (hts _ it_X8)
  obtain ⟨a0, b0⟩ := z_arrT (hts _ ac_0) (fun _ q => q)
  obtain ⟨a1, b1⟩ := z_arrT (hts _ ac_1) (fun _ q => q)
  obtain ⟨a2, b2⟩ := z_arrT (hts _ ac_2) (fun _ q => q)
  obtain ⟨a3, b3⟩ := z_arrT (hts _ ac_3) (fun _ q => q)
  obtain ⟨p4, a4, q4, f4, -, g4, m4, n4⟩ := Cond.arrayOver_spec (va_AO.use (A := args) h4)
  obtain ⟨p5, a5, q5, f5, g5, m5, n5⟩ := Cond.arrayOver_specA h5
  refine ⟨(fun k => if k = 0 then c0 else if k = 1 then c1 else if k = 2 then c2 else if k = 3 then c3 else if k = 4 then c4 else if k = 5 then c5 else if k = 6 then c6 else if k = 7 then c7 else c8, fun k => if k = 0 then i0 else if k = 1 then i1 else if k = 2 then i2 else if k = 3 then i3 else if k = 4 then i4 else if k = 5 then i5 else if k = 6 then i6 else if k = 7 then i7 else i8), fun k => if k = 0 then a0 else if k = 1 then a1 else if k = 2 then a2 else if k = 3 then a3 else if k = 4 then a4 else a5, ?_, ?_⟩
  · intro k q hq
    have hk : k < 9 := (List.getElem?_eq_some_iff.mp hq).1
    rcases (show k = 0 ∨ k = 1 ∨ k = 2 ∨ k = 3 ∨ k = 4 ∨ k = 5 ∨ k = 6 ∨ k = 7 ∨ k = 8 by omega) with rfl | rfl | rfl | rfl | rfl | rfl | rfl | rfl | rfl <;> cases hq <;> assumption
  · intro k q hq
    have hk : k < 6 := (List.getElem?_eq_some_iff.mp hq).1
    rcases (show k = 0 ∨ k = 1 ∨ k = 2 ∨ k = 3 ∨ k = 4 ∨ k = 5 by omega) with rfl | rfl | rfl | rfl | rfl | rfl <;> cases hq
    · exact b0
    · exact b1
    · exact b2
    · exact b3
    · exact ⟨fun n z => ⟨fun k h => (by cases h), q4, g4, p4, m4⟩, q4, p4, g4, m4, f4, n4⟩
    · exact ⟨fun n z => ⟨fun k h => (by cases h), q5, g5, p5, m5⟩, n5⟩
theorem en_Ne {s : State} {args : Array Value} (hto : ∀ w ∈ lw_tbl, w.before args s = true) : zNe s :=
  ⟨va_Nw.of rfl (hto _ (by decide +kernel)), va_Nw.of rfl (hto _ (by decide +kernel)), va_Nw.of rfl (hto _ (by decide +kernel)), va_Nw.of rfl (hto _ (by decide +kernel)), va_Nw.of rfl (hto _ (by decide +kernel)), va_Nw.of rfl (hto _ (by decide +kernel)), va_Nw.of rfl (hto _ (by decide +kernel)), va_Nw.of rfl (hto _ (by decide +kernel)), va_AO.of (hto _ (by decide +kernel)), (show (Cond.arrayOver (.array .int)).before args s = true from hto _ (by decide +kernel))⟩
abbrev zFl : List Cond := flatC (Jvm.Cond.and given_1 narrow_1)
def zTm (i : Nat) : Term := if i = 0 then .string RX4 36 else .string RX8 194
def zB0 : List Int32 := [119, 97, 116, 101, 114, 32, 104, 105, 108, 108, 32, 32, 102, 105, 101, 108, 100, 32, 99, 108, 111, 117, 100, 32, 99, 104, 105, 108, 100, 32, 119, 105, 110, 100, 32, 32, 114, 97, 105, 110, 32, 32, 109, 111, 115, 116, 32, 32, 115, 101, 101, 100, 32, 32, 108, 97, 119, 32, 32, 32, 103, 114, 111, 119, 32, 32, 102, 97, 108, 108, 32, 32, 109, 97, 114, 107, 32, 32, 111, 114, 32, 32, 32, 32, 97, 110, 100, 32, 32, 32, 110, 111, 116, 32, 32, 32, 115, 105, 122, 101, 32, 32, 103, 114, 111, 117, 110, 100, 97, 103, 101, 32, 32, 32, 102, 97, 114, 32, 32, 32, 109, 97, 110, 121, 32, 32, 109, 97, 114, 107, 115, 32, 104, 111, 117, 114, 32, 32]
theorem zB0_ok : zBs.getD 0 [] = zB0 := by decide +kernel
theorem z_fl0 : (zFl.drop 35).take 138 = (List.range 138).map (fun j => Cond.eq (.elem (.field (.string RX4 36) "java/lang/String" "value" "[B") (.int (Int32.ofNat j))) (.int (zB0.getD j 0))) := by decide +kernel
theorem z_el0 (j : Nat) (hj : j < 138) : Cond.eq (.elem (.field (zTm 0) "java/lang/String" "value" "[B") (.int (Int32.ofNat j))) (.int ((zBs.getD 0 []).getD j 0)) ∈ zFl := by
  rw [zB0_ok]
  have h : Cond.eq (.elem (.field (.string RX4 36) "java/lang/String" "value" "[B") (.int (Int32.ofNat j))) (.int (zB0.getD j 0)) ∈ (zFl.drop 35).take 138 := by
    rw [z_fl0]
    exact List.mem_map.mpr ⟨j, List.mem_range.mpr hj, rfl⟩
  exact List.mem_of_mem_drop (List.mem_of_mem_take h)
def zB1 : List Int32 := [119, 97, 116, 101, 114, 32, 104, 105, 108, 108, 32, 102, 105, 101, 108, 100, 32, 99, 108, 111, 117, 100, 32, 99, 104, 105, 108, 100, 32, 119, 105, 110, 100, 32, 114, 97, 105, 110, 32, 109, 111, 115, 116, 32, 115, 101, 101, 100, 32, 108, 97, 119, 32, 103, 114, 111, 119, 32, 102, 97, 108, 108, 32, 109, 97, 114, 107, 32, 111, 114, 32, 97, 110, 100, 32, 110, 111, 116, 32, 115, 105, 122, 101, 32, 103, 114, 111, 117, 110, 100, 32, 97, 103, 101, 32, 102, 97, 114, 32, 109, 97, 110, 121, 32, 109, 97, 114, 107, 115, 32, 104, 111, 117, 114, 32]
theorem zB1_ok : zBs.getD 1 [] = zB1 := by decide +kernel
theorem z_fl1 : (zFl.drop 177).take 115 = (List.range 115).map (fun j => Cond.eq (.elem (.field (.string RX8 194) "java/lang/String" "value" "[B") (.int (Int32.ofNat j))) (.int (zB1.getD j 0))) := by decide +kernel
theorem z_el1 (j : Nat) (hj : j < 115) : Cond.eq (.elem (.field (zTm 1) "java/lang/String" "value" "[B") (.int (Int32.ofNat j))) (.int ((zBs.getD 1 []).getD j 0)) ∈ zFl := by
  rw [zB1_ok]
  have h : Cond.eq (.elem (.field (.string RX8 194) "java/lang/String" "value" "[B") (.int (Int32.ofNat j))) (.int (zB1.getD j 0)) ∈ (zFl.drop 177).take 115 := by
    rw [z_fl1]
    exact List.mem_map.mpr ⟨j, List.mem_range.mpr hj, rfl⟩
  exact List.mem_of_mem_drop (List.mem_of_mem_take h)
theorem en_St {s : State} {args : Array Value} (hto : ∀ w ∈ lw_tbl, w.before args s = true) (hgv : (Jvm.Cond.and given_1 narrow_1).before args s = true) : ∃ aK aV, zSt s.heap.size aK aV s := by
  have hs : ∀ w ∈ zFl, w.before args s = true := flat_of_before _ hgv
  have hA : ∀ a : Nat, a < s.heap.size → ¬ (fun q : Nat => s.heap.size ≤ q) a := fun _ h => Nat.not_le.mpr h
  have two : ∀ {P : Nat → Prop}, P 0 → P 1 → ∀ i, i < 2 → P i := fun h0 h1 i hi => by
    rcases (show i = 0 ∨ i = 1 by omega) with rfl | rfl
    · exact h0
    · exact h1
  obtain ⟨aK, aV, hS, hT⟩ := vk_Sof (N := 2) (tm := zTm) (len := zLn) (byt := zBs) (A := fun q : Nat => s.heap.size ≤ q) (args := args) (s := s) (by decide)
    (two (hs _ (by decide +kernel)) (hs _ (by decide +kernel))) (two (hs _ (by decide +kernel)) (hs _ (by decide +kernel))) (two (hs _ (by decide +kernel)) (hs _ (by decide +kernel))) (two (hs _ (by decide +kernel)) (hs _ (by decide +kernel)))
    (two (fun j hj => hs _ (z_el0 j hj)) (fun j hj => hs _ (z_el1 j hj)))
    (fun i j hi hj hne => by
      rcases (show (i = 0 ∧ j = 1) ∨ (i = 1 ∧ j = 0) by omega) with ⟨rfl, rfl⟩ | ⟨rfl, rfl⟩
      · exact Or.inl (hs _ (by decide +kernel))
      · exact Or.inr (hs _ (by decide +kernel))) hA
  exact ⟨aK, aV, hS, vk_R.of (hto _ (by decide +kernel)) (hT 0 (by decide)), vk_R.of (hto _ (by decide +kernel)) (hT 1 (by decide)), va_Zof (hto _ (by decide +kernel)) (hto _ (by decide +kernel)) (va_eqi (hs _ (by decide +kernel))) hA, va_Zqof (hto _ (by decide +kernel)) (hto _ (by decide +kernel)) (hs _ (by decide +kernel)) hA⟩
theorem en_Xt {s : State} {args : Array Value} (hto : ∀ w ∈ lw_tbl, w.before args s = true) (hgv : (Jvm.Cond.and given_1 narrow_1).before args s = true) : zXt s.heap.size s := by
  have hs : ∀ w ∈ zFl, w.before args s = true := flat_of_before _ hgv
  have hA : ∀ a : Nat, a < s.heap.size → ¬ (fun q : Nat => s.heap.size ≤ q) a := fun _ h => Nat.not_le.mpr h
  exact ⟨vx_Zqof (hto _ (by decide +kernel)) (hto _ (by decide +kernel)) (hs _ (by decide +kernel)) hA, vx_Zqof (hto _ (by decide +kernel)) (hto _ (by decide +kernel)) (hs _ (by decide +kernel)) hA, va_Nw.of rfl (hto _ (by decide +kernel)), va_Nw.of rfl (hto _ (by decide +kernel)), va_Nw.of rfl (hto _ (by decide +kernel)), va_Nw.of rfl (hto _ (by decide +kernel)), va_Nw.of rfl (hto _ (by decide +kernel)), va_Nc.of (args := args) (hs _ (by decide +kernel))⟩

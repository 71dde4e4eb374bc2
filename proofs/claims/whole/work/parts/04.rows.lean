def zrm (x y : Int32) : Int32 := x - x / y * y
def zdv (x y : Int32) : Option Int32 := if y = 0 then none else some (x / y)
def zrp (x y : Int32) : Option Int32 := if y = 0 then none else some (zrm x y)
def zdl (x y : Int64) : Option Int64 := if y = 0 then none else some (x / y)
def zmx (x y : Int32) : Int32 := if x < y then y else x
def zmn (x y : Int32) : Int32 := if y < x then y else x
def zab (x : Int32) : Int32 := if 0 ≤ x then x else 0 - x
def zmxL (x y : Int64) : Int64 := if y < x then x else y
def zmnL (x y : Int64) : Int64 := if y < x then y else x
def zabL (x : Int64) : Int64 := if 0 < x then x else -x
theorem zw_of (w : Cond) (i : Nat) (h : lw_tbl[i]? = some w) (hg : goodWord w = true) : w ∈ zT := List.mem_filter.mpr ⟨List.mem_of_getElem? h, hg⟩
theorem zw_Math : Cond.initialized "java/lang/Math" ∈ zT := zw_of _ 136 (by decide +kernel) (by decide +kernel)
theorem zw_maxs : Cond.static Lib.Math.max.name ∈ zT := zw_of _ 775 (by decide +kernel) (by decide +kernel)
theorem zw_maxc : Cond.code Lib.Math.max.name Lib.Math.max.code 2 (some .int) ∈ zT := zw_of _ 776 (by decide +kernel) (by decide +kernel)
theorem zw_mins : Cond.static Lib.Math.min.name ∈ zT := zw_of _ 627 (by decide +kernel) (by decide +kernel)
theorem zw_minc : Cond.code Lib.Math.min.name Lib.Math.min.code 2 (some .int) ∈ zT := zw_of _ 628 (by decide +kernel) (by decide +kernel)
theorem zw_abss : Cond.static Lib.Math.abs.name ∈ zT := zw_of _ 862 (by decide +kernel) (by decide +kernel)
theorem zw_absc : Cond.code Lib.Math.abs.name Lib.Math.abs.code 1 (some .int) ∈ zT := zw_of _ 863 (by decide +kernel) (by decide +kernel)
theorem zw_maxLs : Cond.static Lib.MathLoose.max_long.x ∈ zT := zw_of _ 982 (by decide +kernel) (by decide +kernel)
theorem zw_maxLc : Cond.code Lib.MathLoose.max_long.x Lib.MathLoose.max_long.code 4 (some .long) ∈ zT := zw_of _ 983 (by decide +kernel) (by decide +kernel)
theorem zw_minLs : Cond.static Lib.MathLoose.min_long.x ∈ zT := zw_of _ 979 (by decide +kernel) (by decide +kernel)
theorem zw_minLc : Cond.code Lib.MathLoose.min_long.x Lib.MathLoose.min_long.code 4 (some .long) ∈ zT := zw_of _ 980 (by decide +kernel) (by decide +kernel)
theorem zw_absLs : Cond.static Lib.MathLoose.abs_long.x ∈ zT := zw_of _ 1809 (by decide +kernel) (by decide +kernel)
theorem zw_absLc : Cond.code Lib.MathLoose.abs_long.x Lib.MathLoose.abs_long.code 2 (some .long) ∈ zT := zw_of _ 1810 (by decide +kernel) (by decide +kernel)
theorem zw_obi : Cond.instanceMethod objectInit ∈ zT := zw_of _ 150 (by decide +kernel) (by decide +kernel)
theorem zw_obc : Cond.code objectInit ⟨#[0xb1]⟩ 1 none ∈ zT := zw_of _ 151 (by decide +kernel) (by decide +kernel)
section ZP
variable {α β ε ρ σ : Type} {X : zCx} {M : zMt} {cs : Nat × Nat} {pc pc' : Nat} {lv : List (Nat × Value)} {st : List Value} {h : zHp} {c : Option (α × zHp)} {K : α → zHp → Prop}
theorem zg_iconst {n : Int} (v : Int32) (hv0 : Int32.ofInt n = v) (hd : zDc M pc (.iconst n) 1 pc') (k : zG X M cs pc' lv (.int v :: st) h c K) : zG X M cs pc lv (st) h c K := by
  obtain ⟨hd, rfl⟩ := hd
  obtain ⟨p, l, e, R, s, m, args, below, meth, cd, g, Qc⟩ := X
  intro a h' hc hK hok ls H locs hv hR hS
  exact lv_iconst hok.1 hok.2.1 hd hv0 (k a h' hc hK hok ls H locs hv hR hS)

theorem zg_bipush {n : Int} (v : Int32) (hv0 : (Int8.ofInt n).toInt32 = v) (hd : zDc M pc (.bipush n) 2 pc') (k : zG X M cs pc' lv (.int v :: st) h c K) : zG X M cs pc lv (st) h c K := by
  obtain ⟨hd, rfl⟩ := hd
  obtain ⟨p, l, e, R, s, m, args, below, meth, cd, g, Qc⟩ := X
  intro a h' hc hK hok ls H locs hv hR hS
  exact lv_bipush hok.1 hok.2.1 hd hv0 (k a h' hc hK hok ls H locs hv hR hS)

theorem zg_sipush {n : Int} (v : Int32) (hv0 : (Int16.ofInt n).toInt32 = v) (hd : zDc M pc (.sipush n) 3 pc') (k : zG X M cs pc' lv (.int v :: st) h c K) : zG X M cs pc lv (st) h c K := by
  obtain ⟨hd, rfl⟩ := hd
  obtain ⟨p, l, e, R, s, m, args, below, meth, cd, g, Qc⟩ := X
  intro a h' hc hK hok ls H locs hv hR hS
  exact lv_sipush hok.1 hok.2.1 hd hv0 (k a h' hc hK hok ls H locs hv hR hS)

theorem zg_lconst {n : Fin 2} (v : Int64) (hv0 : Int64.ofNat (n : Nat) = v) (hd : zDc M pc (.lconst n) 1 pc') (k : zG X M cs pc' lv (.long v :: st) h c K) : zG X M cs pc lv (st) h c K := by
  obtain ⟨hd, rfl⟩ := hd
  obtain ⟨p, l, e, R, s, m, args, below, meth, cd, g, Qc⟩ := X
  intro a h' hc hK hok ls H locs hv hR hS
  exact lv_lconst hok.1 hok.2.1 hd hv0 (k a h' hc hK hok ls H locs hv hR hS)

theorem zg_iload_n {k4 : Fin 4} {x : Int32} (k0 : Nat) (hk : lv[k0]? = some ((k4 : Nat), .int x)) (hd : zDc M pc (.iload_n k4) 1 pc') (k : zG X M cs pc' lv (.int x :: st) h c K) : zG X M cs pc lv (st) h c K := by
  obtain ⟨hd, rfl⟩ := hd
  obtain ⟨p, l, e, R, s, m, args, below, meth, cd, g, Qc⟩ := X
  intro a h' hc hK hok ls H locs hv hR hS
  exact lv_iload_n hok.1 hok.2.1 hd rfl (lv_at hv k0 hk) (k a h' hc hK hok ls H locs hv hR hS)

theorem zg_iload {i : Nat} {x : Int32} (k0 : Nat) (hk : lv[k0]? = some (i, .int x)) (hd : zDc M pc (.iload i) 2 pc') (k : zG X M cs pc' lv (.int x :: st) h c K) : zG X M cs pc lv (st) h c K := by
  obtain ⟨hd, rfl⟩ := hd
  obtain ⟨p, l, e, R, s, m, args, below, meth, cd, g, Qc⟩ := X
  intro a h' hc hK hok ls H locs hv hR hS
  exact lv_iload hok.1 hok.2.1 hd (lv_at hv k0 hk) (k a h' hc hK hok ls H locs hv hR hS)

theorem zg_lload_n {k4 : Fin 4} {x : Int64} (k0 : Nat) (hk : lv[k0]? = some ((k4 : Nat), .long x)) (hd : zDc M pc (.lload_n k4) 1 pc') (k : zG X M cs pc' lv (.long x :: st) h c K) : zG X M cs pc lv (st) h c K := by
  obtain ⟨hd, rfl⟩ := hd
  obtain ⟨p, l, e, R, s, m, args, below, meth, cd, g, Qc⟩ := X
  intro a h' hc hK hok ls H locs hv hR hS
  exact lv_lload_n hok.1 hok.2.1 hd rfl (lv_at hv k0 hk) (k a h' hc hK hok ls H locs hv hR hS)

theorem zg_lload {i : Nat} {x : Int64} (k0 : Nat) (hk : lv[k0]? = some (i, .long x)) (hd : zDc M pc (.lload i) 2 pc') (k : zG X M cs pc' lv (.long x :: st) h c K) : zG X M cs pc lv (st) h c K := by
  obtain ⟨hd, rfl⟩ := hd
  obtain ⟨p, l, e, R, s, m, args, below, meth, cd, g, Qc⟩ := X
  intro a h' hc hK hok ls H locs hv hR hS
  exact lv_lload hok.1 hok.2.1 hd (lv_at hv k0 hk) (k a h' hc hK hok ls H locs hv hR hS)

theorem zg_aload_n {k4 : Fin 4} {x : Nat} (k0 : Nat) (hk : lv[k0]? = some ((k4 : Nat), .ref x)) (hd : zDc M pc (.aload_n k4) 1 pc') (k : zG X M cs pc' lv (.ref x :: st) h c K) : zG X M cs pc lv (st) h c K := by
  obtain ⟨hd, rfl⟩ := hd
  obtain ⟨p, l, e, R, s, m, args, below, meth, cd, g, Qc⟩ := X
  intro a h' hc hK hok ls H locs hv hR hS
  exact lv_aload_n hok.1 hok.2.1 hd rfl (lv_at hv k0 hk) (k a h' hc hK hok ls H locs hv hR hS)

theorem zg_aload {i : Nat} {x : Nat} (k0 : Nat) (hk : lv[k0]? = some (i, .ref x)) (hd : zDc M pc (.aload i) 2 pc') (k : zG X M cs pc' lv (.ref x :: st) h c K) : zG X M cs pc lv (st) h c K := by
  obtain ⟨hd, rfl⟩ := hd
  obtain ⟨p, l, e, R, s, m, args, below, meth, cd, g, Qc⟩ := X
  intro a h' hc hK hok ls H locs hv hR hS
  exact lv_aload hok.1 hok.2.1 hd (lv_at hv k0 hk) (k a h' hc hK hok ls H locs hv hR hS)

theorem zg_istore_n {k4 : Fin 4} {i : Nat} {x : Int32} (lv' : List (Nat × Value)) (hd : zDc M pc (.istore_n k4) 1 pc') (hi : (k4 : Nat) = i) (hn : i < M.2.2.1) (hl : (i, Value.int x) :: lv.filter (fun q => !(q.1 == i) && !(q.1 + 1 == i && q.2.category == 2)) = lv') (k : zG X M cs pc' lv' st h c K) : zG X M cs pc lv (.int x :: st) h c K := by
  obtain ⟨hd, rfl⟩ := hd
  obtain ⟨p, l, e, R, s, m, args, below, meth, cd, g, Qc⟩ := X
  intro a h' hc hK hok ls H locs hv hR hS
  exact lv_istore_n hok.1 hok.2.1 hd hi hv hn hl (fun ls hv => k a h' hc hK hok ls H locs hv hR hS)

theorem zg_istore {i : Nat} {x : Int32} (lv' : List (Nat × Value)) (hd : zDc M pc (.istore i) 2 pc') (hn : i < M.2.2.1) (hl : (i, Value.int x) :: lv.filter (fun q => !(q.1 == i) && !(q.1 + 1 == i && q.2.category == 2)) = lv') (k : zG X M cs pc' lv' st h c K) : zG X M cs pc lv (.int x :: st) h c K := by
  obtain ⟨hd, rfl⟩ := hd
  obtain ⟨p, l, e, R, s, m, args, below, meth, cd, g, Qc⟩ := X
  intro a h' hc hK hok ls H locs hv hR hS
  exact lv_istore hok.1 hok.2.1 hd hv hn hl (fun ls hv => k a h' hc hK hok ls H locs hv hR hS)

theorem zg_lstore_n {k4 : Fin 4} {i : Nat} {x : Int64} (lv' : List (Nat × Value)) (hd : zDc M pc (.lstore_n k4) 1 pc') (hi : (k4 : Nat) = i) (hn : i + 1 < M.2.2.1) (hl : (i, Value.long x) :: lv.filter (fun q => !(q.1 == i) && (!(q.1 == i + 1) && !(q.1 + 1 == i && q.2.category == 2))) = lv') (k : zG X M cs pc' lv' st h c K) : zG X M cs pc lv (.long x :: st) h c K := by
  obtain ⟨hd, rfl⟩ := hd
  obtain ⟨p, l, e, R, s, m, args, below, meth, cd, g, Qc⟩ := X
  intro a h' hc hK hok ls H locs hv hR hS
  exact lv_lstore_n hok.1 hok.2.1 hd hi hv hn hl (fun ls hv => k a h' hc hK hok ls H locs hv hR hS)

theorem zg_lstore {i : Nat} {x : Int64} (lv' : List (Nat × Value)) (hd : zDc M pc (.lstore i) 2 pc') (hn : i + 1 < M.2.2.1) (hl : (i, Value.long x) :: lv.filter (fun q => !(q.1 == i) && (!(q.1 == i + 1) && !(q.1 + 1 == i && q.2.category == 2))) = lv') (k : zG X M cs pc' lv' st h c K) : zG X M cs pc lv (.long x :: st) h c K := by
  obtain ⟨hd, rfl⟩ := hd
  obtain ⟨p, l, e, R, s, m, args, below, meth, cd, g, Qc⟩ := X
  intro a h' hc hK hok ls H locs hv hR hS
  exact lv_lstore hok.1 hok.2.1 hd hv hn hl (fun ls hv => k a h' hc hK hok ls H locs hv hR hS)

theorem zg_astore_n {k4 : Fin 4} {i : Nat} {x : Nat} (lv' : List (Nat × Value)) (hd : zDc M pc (.astore_n k4) 1 pc') (hi : (k4 : Nat) = i) (hn : i < M.2.2.1) (hl : (i, Value.ref x) :: lv.filter (fun q => !(q.1 == i) && !(q.1 + 1 == i && q.2.category == 2)) = lv') (k : zG X M cs pc' lv' st h c K) : zG X M cs pc lv (.ref x :: st) h c K := by
  obtain ⟨hd, rfl⟩ := hd
  obtain ⟨p, l, e, R, s, m, args, below, meth, cd, g, Qc⟩ := X
  intro a h' hc hK hok ls H locs hv hR hS
  exact lv_astore_n hok.1 hok.2.1 hd hi hv hn hl (fun ls hv => k a h' hc hK hok ls H locs hv hR hS)

theorem zg_astore {i : Nat} {x : Nat} (lv' : List (Nat × Value)) (hd : zDc M pc (.astore i) 2 pc') (hn : i < M.2.2.1) (hl : (i, Value.ref x) :: lv.filter (fun q => !(q.1 == i) && !(q.1 + 1 == i && q.2.category == 2)) = lv') (k : zG X M cs pc' lv' st h c K) : zG X M cs pc lv (.ref x :: st) h c K := by
  obtain ⟨hd, rfl⟩ := hd
  obtain ⟨p, l, e, R, s, m, args, below, meth, cd, g, Qc⟩ := X
  intro a h' hc hK hok ls H locs hv hR hS
  exact lv_astore hok.1 hok.2.1 hd hv hn hl (fun ls hv => k a h' hc hK hok ls H locs hv hR hS)

theorem zg_iinc {i : Nat} {n : Int} {x : Int32} (k0 : Nat) (v : Int32) (lv' : List (Nat × Value)) (hd : zDc M pc (.iinc i n) 3 pc') (hk : lv[k0]? = some (i, .int x)) (hv0 : x + Int32.ofInt n = v) (hn : i < M.2.2.1) (hl : (i, Value.int v) :: lv.filter (fun q => !(q.1 == i) && !(q.1 + 1 == i && q.2.category == 2)) = lv') (k : zG X M cs pc' lv' st h c K) : zG X M cs pc lv st h c K := by
  obtain ⟨hd, rfl⟩ := hd
  obtain ⟨p, l, e, R, s, m, args, below, meth, cd, g, Qc⟩ := X
  intro a h' hc hK hok ls H locs hv hR hS
  exact lv_iinc hok.1 hok.2.1 hd hv hk hv0 hn hl (fun ls hv => k a h' hc hK hok ls H locs hv hR hS)

theorem zg_iadd {x y : Int32} (hd : zDc M pc .iadd 1 pc') (k : zG X M cs pc' lv (.int (x + y) :: st) h c K) : zG X M cs pc lv (.int y :: .int x :: st) h c K := by
  obtain ⟨hd, rfl⟩ := hd
  obtain ⟨p, l, e, R, s, m, args, below, meth, cd, g, Qc⟩ := X
  intro a h' hc hK hok ls H locs hv hR hS
  exact lv_iadd hok.1 hok.2.1 hd (k a h' hc hK hok ls H locs hv hR hS)

theorem zg_isub {x y : Int32} (hd : zDc M pc .isub 1 pc') (k : zG X M cs pc' lv (.int (x - y) :: st) h c K) : zG X M cs pc lv (.int y :: .int x :: st) h c K := by
  obtain ⟨hd, rfl⟩ := hd
  obtain ⟨p, l, e, R, s, m, args, below, meth, cd, g, Qc⟩ := X
  intro a h' hc hK hok ls H locs hv hR hS
  exact lv_isub hok.1 hok.2.1 hd (k a h' hc hK hok ls H locs hv hR hS)

theorem zg_imul {x y : Int32} (hd : zDc M pc .imul 1 pc') (k : zG X M cs pc' lv (.int (x * y) :: st) h c K) : zG X M cs pc lv (.int y :: .int x :: st) h c K := by
  obtain ⟨hd, rfl⟩ := hd
  obtain ⟨p, l, e, R, s, m, args, below, meth, cd, g, Qc⟩ := X
  intro a h' hc hK hok ls H locs hv hR hS
  exact lv_imul hok.1 hok.2.1 hd (k a h' hc hK hok ls H locs hv hR hS)

theorem zg_iand {x y : Int32} (hd : zDc M pc .iand 1 pc') (k : zG X M cs pc' lv (.int (x &&& y) :: st) h c K) : zG X M cs pc lv (.int y :: .int x :: st) h c K := by
  obtain ⟨hd, rfl⟩ := hd
  obtain ⟨p, l, e, R, s, m, args, below, meth, cd, g, Qc⟩ := X
  intro a h' hc hK hok ls H locs hv hR hS
  exact lv_iand hok.1 hok.2.1 hd (k a h' hc hK hok ls H locs hv hR hS)

theorem zg_ior {x y : Int32} (hd : zDc M pc .ior 1 pc') (k : zG X M cs pc' lv (.int (x ||| y) :: st) h c K) : zG X M cs pc lv (.int y :: .int x :: st) h c K := by
  obtain ⟨hd, rfl⟩ := hd
  obtain ⟨p, l, e, R, s, m, args, below, meth, cd, g, Qc⟩ := X
  intro a h' hc hK hok ls H locs hv hR hS
  exact lv_ior hok.1 hok.2.1 hd (k a h' hc hK hok ls H locs hv hR hS)

theorem zg_ixor {x y : Int32} (hd : zDc M pc .ixor 1 pc') (k : zG X M cs pc' lv (.int (x ^^^ y) :: st) h c K) : zG X M cs pc lv (.int y :: .int x :: st) h c K := by
  obtain ⟨hd, rfl⟩ := hd
  obtain ⟨p, l, e, R, s, m, args, below, meth, cd, g, Qc⟩ := X
  intro a h' hc hK hok ls H locs hv hR hS
  exact lv_ixor hok.1 hok.2.1 hd (k a h' hc hK hok ls H locs hv hR hS)

theorem zg_ishl {x y : Int32} (hd : zDc M pc .ishl 1 pc') (k : zG X M cs pc' lv (.int (x <<< (y &&& 31)) :: st) h c K) : zG X M cs pc lv (.int y :: .int x :: st) h c K := by
  obtain ⟨hd, rfl⟩ := hd
  obtain ⟨p, l, e, R, s, m, args, below, meth, cd, g, Qc⟩ := X
  intro a h' hc hK hok ls H locs hv hR hS
  exact lv_ishl hok.1 hok.2.1 hd (k a h' hc hK hok ls H locs hv hR hS)

theorem zg_ishr {x y : Int32} (hd : zDc M pc .ishr 1 pc') (k : zG X M cs pc' lv (.int (x >>> (y &&& 31)) :: st) h c K) : zG X M cs pc lv (.int y :: .int x :: st) h c K := by
  obtain ⟨hd, rfl⟩ := hd
  obtain ⟨p, l, e, R, s, m, args, below, meth, cd, g, Qc⟩ := X
  intro a h' hc hK hok ls H locs hv hR hS
  exact lv_ishr hok.1 hok.2.1 hd (k a h' hc hK hok ls H locs hv hR hS)

theorem zg_ladd {x y : Int64} (hd : zDc M pc .ladd 1 pc') (k : zG X M cs pc' lv (.long (x + y) :: st) h c K) : zG X M cs pc lv (.long y :: .long x :: st) h c K := by
  obtain ⟨hd, rfl⟩ := hd
  obtain ⟨p, l, e, R, s, m, args, below, meth, cd, g, Qc⟩ := X
  intro a h' hc hK hok ls H locs hv hR hS
  exact lv_ladd hok.1 hok.2.1 hd (k a h' hc hK hok ls H locs hv hR hS)

theorem zg_lsub {x y : Int64} (hd : zDc M pc .lsub 1 pc') (k : zG X M cs pc' lv (.long (x - y) :: st) h c K) : zG X M cs pc lv (.long y :: .long x :: st) h c K := by
  obtain ⟨hd, rfl⟩ := hd
  obtain ⟨p, l, e, R, s, m, args, below, meth, cd, g, Qc⟩ := X
  intro a h' hc hK hok ls H locs hv hR hS
  exact lv_lsub hok.1 hok.2.1 hd (k a h' hc hK hok ls H locs hv hR hS)

theorem zg_lmul {x y : Int64} (hd : zDc M pc .lmul 1 pc') (k : zG X M cs pc' lv (.long (x * y) :: st) h c K) : zG X M cs pc lv (.long y :: .long x :: st) h c K := by
  obtain ⟨hd, rfl⟩ := hd
  obtain ⟨p, l, e, R, s, m, args, below, meth, cd, g, Qc⟩ := X
  intro a h' hc hK hok ls H locs hv hR hS
  exact lv_lmul hok.1 hok.2.1 hd (k a h' hc hK hok ls H locs hv hR hS)

theorem zg_ineg {x : Int32} (hd : zDc M pc .ineg 1 pc') (k : zG X M cs pc' lv (.int (0 - x) :: st) h c K) : zG X M cs pc lv (.int x :: st) h c K := by
  obtain ⟨hd, rfl⟩ := hd
  obtain ⟨p, l, e, R, s, m, args, below, meth, cd, g, Qc⟩ := X
  intro a h' hc hK hok ls H locs hv hR hS
  exact lv_ineg hok.1 hok.2.1 hd (k a h' hc hK hok ls H locs hv hR hS)

theorem zg_lneg {x : Int64} (hd : zDc M pc .lneg 1 pc') (k : zG X M cs pc' lv (.long (-x) :: st) h c K) : zG X M cs pc lv (.long x :: st) h c K := by
  obtain ⟨hd, rfl⟩ := hd
  obtain ⟨p, l, e, R, s, m, args, below, meth, cd, g, Qc⟩ := X
  intro a h' hc hK hok ls H locs hv hR hS
  exact lv_lneg hok.1 hok.2.1 hd (k a h' hc hK hok ls H locs hv hR hS)

theorem zg_idiv {x y : Int32} (hne : ¬ y = 0) (hd : zDc M pc .idiv 1 pc') (k : zG X M cs pc' lv (.int (x / y) :: st) h c K) : zG X M cs pc lv (.int y :: .int x :: st) h c K := by
  obtain ⟨hd, rfl⟩ := hd
  obtain ⟨p, l, e, R, s, m, args, below, meth, cd, g, Qc⟩ := X
  intro a h' hc hK hok ls H locs hv hR hS
  exact lv_idiv hok.1 hok.2.1 hd hne (k a h' hc hK hok ls H locs hv hR hS)

theorem zg_irem {x y : Int32} (hne : ¬ y = 0) (hd : zDc M pc .irem 1 pc') (k : zG X M cs pc' lv (.int (zrm x y) :: st) h c K) : zG X M cs pc lv (.int y :: .int x :: st) h c K := by
  obtain ⟨hd, rfl⟩ := hd
  obtain ⟨p, l, e, R, s, m, args, below, meth, cd, g, Qc⟩ := X
  intro a h' hc hK hok ls H locs hv hR hS
  exact lv_irem hok.1 hok.2.1 hd hne (k a h' hc hK hok ls H locs hv hR hS)

theorem zg_lcmp {x y : Int64} (hd : zDc M pc .lcmp 1 pc') (k : zG X M cs pc' lv (.int (lg_cmp x y) :: st) h c K) : zG X M cs pc lv (.long y :: .long x :: st) h c K := by
  obtain ⟨hd, rfl⟩ := hd
  obtain ⟨p, l, e, R, s, m, args, below, meth, cd, g, Qc⟩ := X
  intro a h' hc hK hok ls H locs hv hR hS
  exact W.lcmp hok.1 hok.2.1 hd (k a h' hc hK hok ls H locs hv hR hS)

theorem zg_i2l {x : Int32} (hd : zDc M pc .i2l 1 pc') (k : zG X M cs pc' lv (.long x.toInt64 :: st) h c K) : zG X M cs pc lv (.int x :: st) h c K := by
  obtain ⟨hd, rfl⟩ := hd
  obtain ⟨p, l, e, R, s, m, args, below, meth, cd, g, Qc⟩ := X
  intro a h' hc hK hok ls H locs hv hR hS
  exact lv_i2l hok.1 hok.2.1 hd rfl (k a h' hc hK hok ls H locs hv hR hS)

theorem zg_l2i {x : Int64} (hd : zDc M pc .l2i 1 pc') (k : zG X M cs pc' lv (.int x.toInt32 :: st) h c K) : zG X M cs pc lv (.long x :: st) h c K := by
  obtain ⟨hd, rfl⟩ := hd
  obtain ⟨p, l, e, R, s, m, args, below, meth, cd, g, Qc⟩ := X
  intro a h' hc hK hok ls H locs hv hR hS
  exact lv_l2i hok.1 hok.2.1 hd rfl (k a h' hc hK hok ls H locs hv hR hS)

theorem zg_i2b {x : Int32} (hd : zDc M pc .i2b 1 pc') (k : zG X M cs pc' lv (.int x.toInt8.toInt32 :: st) h c K) : zG X M cs pc lv (.int x :: st) h c K := by
  obtain ⟨hd, rfl⟩ := hd
  obtain ⟨p, l, e, R, s, m, args, below, meth, cd, g, Qc⟩ := X
  intro a h' hc hK hok ls H locs hv hR hS
  exact lv_i2b hok.1 hok.2.1 hd rfl (k a h' hc hK hok ls H locs hv hR hS)

theorem zg_iushr {x y : Int32} (hd : zDc M pc .iushr 1 pc') (k : zG X M cs pc' lv (.int (x.toUInt32 >>> (y.toUInt32 &&& Int32.toUInt32 31)).toInt32 :: st) h c K) : zG X M cs pc lv (.int y :: .int x :: st) h c K := by
  obtain ⟨hd, rfl⟩ := hd
  obtain ⟨p, l, e, R, s, m, args, below, meth, cd, g, Qc⟩ := X
  intro a h' hc hK hok ls H locs hv hR hS
  exact lv_iushr hok.1 hok.2.1 hd rfl (k a h' hc hK hok ls H locs hv hR hS)

theorem zg_dup {v : Value} (hc0 : v.category = 1) (hd : zDc M pc .dup 1 pc') (k : zG X M cs pc' lv (v :: v :: st) h c K) : zG X M cs pc lv (v :: st) h c K := by
  obtain ⟨hd, rfl⟩ := hd
  obtain ⟨p, l, e, R, s, m, args, below, meth, cd, g, Qc⟩ := X
  intro a h' hc hK hok ls H locs hv hR hS
  exact lv_dup hok.1 hok.2.1 hd hc0 (k a h' hc hK hok ls H locs hv hR hS)

theorem zg_pop {v : Value} (hc0 : v.category = 1) (hd : zDc M pc .pop 1 pc') (k : zG X M cs pc' lv (st) h c K) : zG X M cs pc lv (v :: st) h c K := by
  obtain ⟨hd, rfl⟩ := hd
  obtain ⟨p, l, e, R, s, m, args, below, meth, cd, g, Qc⟩ := X
  intro a h' hc hK hok ls H locs hv hR hS
  exact lv_pop hok.1 hok.2.1 hd hc0 (k a h' hc hK hok ls H locs hv hR hS)

theorem zg_dup2 {v w : Value} (hc0 : v.category = 1) (hc1 : w.category = 1) (hd : zDc M pc .dup2 1 pc') (k : zG X M cs pc' lv (v :: w :: v :: w :: st) h c K) : zG X M cs pc lv (v :: w :: st) h c K := by
  obtain ⟨hd, rfl⟩ := hd
  obtain ⟨p, l, e, R, s, m, args, below, meth, cd, g, Qc⟩ := X
  intro a h' hc hK hok ls H locs hv hR hS
  exact lv_dup2_11 hok.1 hok.2.1 hd hc0 hc1 (k a h' hc hK hok ls H locs hv hR hS)

theorem zg_dup_x1 {v w : Value} (hc0 : v.category = 1) (hc1 : w.category = 1) (hd : zDc M pc .dup_x1 1 pc') (k : zG X M cs pc' lv (v :: w :: v :: st) h c K) : zG X M cs pc lv (v :: w :: st) h c K := by
  obtain ⟨hd, rfl⟩ := hd
  obtain ⟨p, l, e, R, s, m, args, below, meth, cd, g, Qc⟩ := X
  intro a h' hc hK hok ls H locs hv hR hS
  exact lv_dup_x1 hok.1 hok.2.1 hd hc0 hc1 (k a h' hc hK hok ls H locs hv hR hS)

theorem zg_ldc {i : Nat} {v : Int32} (hw : Cond.constant M.1 i v ∈ zT) (hd : zDc M pc (.ldc i) 2 pc') (k : zG X M cs pc' lv (.int v :: st) h c K) : zG X M cs pc lv (st) h c K := by
  obtain ⟨hd, rfl⟩ := hd
  obtain ⟨p, l, e, R, s, m, args, below, meth, cd, g, Qc⟩ := X
  intro a h' hc hK hok ls H locs hv hR hS
  exact lv_ldc hok.1 hok.2.1 hok.2.2.2.1 (hok.2.2.2.2.1 _ hw) hd (k a h' hc hK hok ls H locs hv hR hS)

theorem zg_ldcw {i : Nat} {v : Int32} (hw : Cond.constant M.1 i v ∈ zT) (hd : zDc M pc (.ldc_w i) 3 pc') (k : zG X M cs pc' lv (.int v :: st) h c K) : zG X M cs pc lv (st) h c K := by
  obtain ⟨hd, rfl⟩ := hd
  obtain ⟨p, l, e, R, s, m, args, below, meth, cd, g, Qc⟩ := X
  intro a h' hc hK hok ls H locs hv hR hS
  exact lv_ldcw hok.1 hok.2.1 hok.2.2.2.1 (hok.2.2.2.2.1 _ hw) hd (k a h' hc hK hok ls H locs hv hR hS)

theorem zg_ldc2 {i : Nat} {v : Int64} (hw : Cond.constantLong M.1 i v ∈ zT) (hd : zDc M pc (.ldc2_w i) 3 pc') (k : zG X M cs pc' lv (.long v :: st) h c K) : zG X M cs pc lv (st) h c K := by
  obtain ⟨hd, rfl⟩ := hd
  obtain ⟨p, l, e, R, s, m, args, below, meth, cd, g, Qc⟩ := X
  intro a h' hc hK hok ls H locs hv hR hS
  exact lv_ldc2 hok.1 hok.2.1 hok.2.2.2.1 (hok.2.2.2.2.1 _ hw) hd (k a h' hc hK hok ls H locs hv hR hS)

theorem zg_idivP {x y : Int32} {f : Int32 → Option (α × zHp)} (hd : zDc M pc .idiv 1 pc') (k : ∀ v : Int32, zG X M cs pc' lv (.int v :: st) h (f v) K) : zG X M cs pc lv (.int y :: .int x :: st) h (zob (zdv x y) f) K := by
  obtain ⟨hd, rfl⟩ := hd
  obtain ⟨p, l, e, R, s, m, args, below, meth, cd, g, Qc⟩ := X
  intro a h' hc hK hok ls H locs hv hR hS
  by_cases hy : y = 0
  · simp [zob, zdv, hy] at hc
  · refine lv_idiv hok.1 hok.2.1 hd hy (k _ a h' ?_ hK hok ls H locs hv hR hS)
    simpa [zob, zdv, hy] using hc

theorem zg_iremP {x y : Int32} {f : Int32 → Option (α × zHp)} (hd : zDc M pc .irem 1 pc') (k : ∀ v : Int32, zG X M cs pc' lv (.int v :: st) h (f v) K) : zG X M cs pc lv (.int y :: .int x :: st) h (zob (zrp x y) f) K := by
  obtain ⟨hd, rfl⟩ := hd
  obtain ⟨p, l, e, R, s, m, args, below, meth, cd, g, Qc⟩ := X
  intro a h' hc hK hok ls H locs hv hR hS
  by_cases hy : y = 0
  · simp [zob, zrp, hy] at hc
  · refine lv_irem hok.1 hok.2.1 hd hy (k (zrm x y) a h' ?_ hK hok ls H locs hv hR hS)
    simpa [zob, zrp, hy] using hc

theorem zg_ldivP {x y : Int64} {f : Int64 → Option (α × zHp)} (hd : zDc M pc .ldiv 1 pc') (k : ∀ v : Int64, zG X M cs pc' lv (.long v :: st) h (f v) K) : zG X M cs pc lv (.long y :: .long x :: st) h (zob (zdl x y) f) K := by
  obtain ⟨hd, rfl⟩ := hd
  obtain ⟨p, l, e, R, s, m, args, below, meth, cd, g, Qc⟩ := X
  intro a h' hc hK hok ls H locs hv hR hS
  by_cases hy : y = 0
  · simp [zob, zdl, hy] at hc
  · refine lv_ldiv hok.1 hok.2.1 hd hy (k _ a h' ?_ hK hok ls H locs hv hR hS)
    simpa [zob, zdl, hy] using hc

theorem zg_goto {off : Int} {tgt : Nat} (hd : zDj M pc (.goto off) off pc' tgt) (k : zG X M cs tgt lv st h c K) : zG X M cs pc lv st h c K := by
  obtain ⟨hd, rfl, ht⟩ := hd
  obtain ⟨p, l, e, R, s, m, args, below, meth, cd, g, Qc⟩ := X
  intro a h' hc hK hok ls H locs hv hR hS
  exact lv_goto hok.1 hok.2.1 hd ht (k a h' hc hK hok ls H locs hv hR hS)

theorem zg_if_eq {x : Int32} {off : Int} {tgt : Nat} {c1 c2 : Option (α × zHp)} (hd : zDj M pc (.ifCond .eq off) off pc' tgt) (kt : zG X M cs tgt lv st h c1 K) (kf : zG X M cs pc' lv st h c2 K) : zG X M cs pc lv (.int x :: st) h (if x = 0 then c1 else c2) K := by
  obtain ⟨hd, rfl, ht⟩ := hd
  obtain ⟨p, l, e, R, s, m, args, below, meth, cd, g, Qc⟩ := X
  intro a h' hc hK hok ls H locs hv hR hS
  refine lv_if_eq hok.1 hok.2.1 hd ht (fun hP => ?_) (fun hP => ?_)
  · rw [if_pos hP] at hc; exact kt a h' hc hK hok ls H locs hv hR hS
  · rw [if_neg hP] at hc; exact kf a h' hc hK hok ls H locs hv hR hS

theorem zg_icmp_eq {x y : Int32} {off : Int} {tgt : Nat} {c1 c2 : Option (α × zHp)} (hd : zDj M pc (.if_icmp .eq off) off pc' tgt) (kt : zG X M cs tgt lv st h c1 K) (kf : zG X M cs pc' lv st h c2 K) : zG X M cs pc lv (.int y :: .int x :: st) h (if x = y then c1 else c2) K := by
  obtain ⟨hd, rfl, ht⟩ := hd
  obtain ⟨p, l, e, R, s, m, args, below, meth, cd, g, Qc⟩ := X
  intro a h' hc hK hok ls H locs hv hR hS
  refine lv_icmp_eq hok.1 hok.2.1 hd ht (fun hP => ?_) (fun hP => ?_)
  · rw [if_pos hP] at hc; exact kt a h' hc hK hok ls H locs hv hR hS
  · rw [if_neg hP] at hc; exact kf a h' hc hK hok ls H locs hv hR hS

theorem zg_if_ne {x : Int32} {off : Int} {tgt : Nat} {c1 c2 : Option (α × zHp)} (hd : zDj M pc (.ifCond .ne off) off pc' tgt) (kf : zG X M cs pc' lv st h c1 K) (kt : zG X M cs tgt lv st h c2 K) : zG X M cs pc lv (.int x :: st) h (if x = 0 then c1 else c2) K := by
  obtain ⟨hd, rfl, ht⟩ := hd
  obtain ⟨p, l, e, R, s, m, args, below, meth, cd, g, Qc⟩ := X
  intro a h' hc hK hok ls H locs hv hR hS
  refine lv_if_ne hok.1 hok.2.1 hd ht (fun hP => ?_) (fun hP => ?_)
  · rw [if_neg hP] at hc; exact kt a h' hc hK hok ls H locs hv hR hS
  · rw [if_pos hP] at hc; exact kf a h' hc hK hok ls H locs hv hR hS

theorem zg_icmp_ne {x y : Int32} {off : Int} {tgt : Nat} {c1 c2 : Option (α × zHp)} (hd : zDj M pc (.if_icmp .ne off) off pc' tgt) (kf : zG X M cs pc' lv st h c1 K) (kt : zG X M cs tgt lv st h c2 K) : zG X M cs pc lv (.int y :: .int x :: st) h (if x = y then c1 else c2) K := by
  obtain ⟨hd, rfl, ht⟩ := hd
  obtain ⟨p, l, e, R, s, m, args, below, meth, cd, g, Qc⟩ := X
  intro a h' hc hK hok ls H locs hv hR hS
  refine lv_icmp_ne hok.1 hok.2.1 hd ht (fun hP => ?_) (fun hP => ?_)
  · rw [if_neg hP] at hc; exact kt a h' hc hK hok ls H locs hv hR hS
  · rw [if_pos hP] at hc; exact kf a h' hc hK hok ls H locs hv hR hS

theorem zg_if_lt {x : Int32} {off : Int} {tgt : Nat} {c1 c2 : Option (α × zHp)} (hd : zDj M pc (.ifCond .lt off) off pc' tgt) (kt : zG X M cs tgt lv st h c1 K) (kf : zG X M cs pc' lv st h c2 K) : zG X M cs pc lv (.int x :: st) h (if x < 0 then c1 else c2) K := by
  obtain ⟨hd, rfl, ht⟩ := hd
  obtain ⟨p, l, e, R, s, m, args, below, meth, cd, g, Qc⟩ := X
  intro a h' hc hK hok ls H locs hv hR hS
  refine lv_if_lt hok.1 hok.2.1 hd ht (fun hP => ?_) (fun hP => ?_)
  · rw [if_pos hP] at hc; exact kt a h' hc hK hok ls H locs hv hR hS
  · rw [if_neg hP] at hc; exact kf a h' hc hK hok ls H locs hv hR hS

theorem zg_icmp_lt {x y : Int32} {off : Int} {tgt : Nat} {c1 c2 : Option (α × zHp)} (hd : zDj M pc (.if_icmp .lt off) off pc' tgt) (kt : zG X M cs tgt lv st h c1 K) (kf : zG X M cs pc' lv st h c2 K) : zG X M cs pc lv (.int y :: .int x :: st) h (if x < y then c1 else c2) K := by
  obtain ⟨hd, rfl, ht⟩ := hd
  obtain ⟨p, l, e, R, s, m, args, below, meth, cd, g, Qc⟩ := X
  intro a h' hc hK hok ls H locs hv hR hS
  refine lv_icmp_lt hok.1 hok.2.1 hd ht (fun hP => ?_) (fun hP => ?_)
  · rw [if_pos hP] at hc; exact kt a h' hc hK hok ls H locs hv hR hS
  · rw [if_neg hP] at hc; exact kf a h' hc hK hok ls H locs hv hR hS

theorem zg_if_ge {x : Int32} {off : Int} {tgt : Nat} {c1 c2 : Option (α × zHp)} (hd : zDj M pc (.ifCond .ge off) off pc' tgt) (kt : zG X M cs tgt lv st h c1 K) (kf : zG X M cs pc' lv st h c2 K) : zG X M cs pc lv (.int x :: st) h (if 0 ≤ x then c1 else c2) K := by
  obtain ⟨hd, rfl, ht⟩ := hd
  obtain ⟨p, l, e, R, s, m, args, below, meth, cd, g, Qc⟩ := X
  intro a h' hc hK hok ls H locs hv hR hS
  refine lv_if_ge hok.1 hok.2.1 hd ht (fun hP => ?_) (fun hP => ?_)
  · rw [if_pos hP] at hc; exact kt a h' hc hK hok ls H locs hv hR hS
  · rw [if_neg hP] at hc; exact kf a h' hc hK hok ls H locs hv hR hS

theorem zg_icmp_ge {x y : Int32} {off : Int} {tgt : Nat} {c1 c2 : Option (α × zHp)} (hd : zDj M pc (.if_icmp .ge off) off pc' tgt) (kt : zG X M cs tgt lv st h c1 K) (kf : zG X M cs pc' lv st h c2 K) : zG X M cs pc lv (.int y :: .int x :: st) h (if y ≤ x then c1 else c2) K := by
  obtain ⟨hd, rfl, ht⟩ := hd
  obtain ⟨p, l, e, R, s, m, args, below, meth, cd, g, Qc⟩ := X
  intro a h' hc hK hok ls H locs hv hR hS
  refine lv_icmp_ge hok.1 hok.2.1 hd ht (fun hP => ?_) (fun hP => ?_)
  · rw [if_pos hP] at hc; exact kt a h' hc hK hok ls H locs hv hR hS
  · rw [if_neg hP] at hc; exact kf a h' hc hK hok ls H locs hv hR hS

theorem zg_if_gt {x : Int32} {off : Int} {tgt : Nat} {c1 c2 : Option (α × zHp)} (hd : zDj M pc (.ifCond .gt off) off pc' tgt) (kt : zG X M cs tgt lv st h c1 K) (kf : zG X M cs pc' lv st h c2 K) : zG X M cs pc lv (.int x :: st) h (if 0 < x then c1 else c2) K := by
  obtain ⟨hd, rfl, ht⟩ := hd
  obtain ⟨p, l, e, R, s, m, args, below, meth, cd, g, Qc⟩ := X
  intro a h' hc hK hok ls H locs hv hR hS
  refine lv_if_gt hok.1 hok.2.1 hd ht (fun hP => ?_) (fun hP => ?_)
  · rw [if_pos hP] at hc; exact kt a h' hc hK hok ls H locs hv hR hS
  · rw [if_neg hP] at hc; exact kf a h' hc hK hok ls H locs hv hR hS

theorem zg_icmp_gt {x y : Int32} {off : Int} {tgt : Nat} {c1 c2 : Option (α × zHp)} (hd : zDj M pc (.if_icmp .gt off) off pc' tgt) (kt : zG X M cs tgt lv st h c1 K) (kf : zG X M cs pc' lv st h c2 K) : zG X M cs pc lv (.int y :: .int x :: st) h (if y < x then c1 else c2) K := by
  obtain ⟨hd, rfl, ht⟩ := hd
  obtain ⟨p, l, e, R, s, m, args, below, meth, cd, g, Qc⟩ := X
  intro a h' hc hK hok ls H locs hv hR hS
  refine lv_icmp_gt hok.1 hok.2.1 hd ht (fun hP => ?_) (fun hP => ?_)
  · rw [if_pos hP] at hc; exact kt a h' hc hK hok ls H locs hv hR hS
  · rw [if_neg hP] at hc; exact kf a h' hc hK hok ls H locs hv hR hS

theorem zg_if_le {x : Int32} {off : Int} {tgt : Nat} {c1 c2 : Option (α × zHp)} (hd : zDj M pc (.ifCond .le off) off pc' tgt) (kt : zG X M cs tgt lv st h c1 K) (kf : zG X M cs pc' lv st h c2 K) : zG X M cs pc lv (.int x :: st) h (if x ≤ 0 then c1 else c2) K := by
  obtain ⟨hd, rfl, ht⟩ := hd
  obtain ⟨p, l, e, R, s, m, args, below, meth, cd, g, Qc⟩ := X
  intro a h' hc hK hok ls H locs hv hR hS
  refine lv_if_le hok.1 hok.2.1 hd ht (fun hP => ?_) (fun hP => ?_)
  · rw [if_pos hP] at hc; exact kt a h' hc hK hok ls H locs hv hR hS
  · rw [if_neg hP] at hc; exact kf a h' hc hK hok ls H locs hv hR hS

theorem zg_icmp_le {x y : Int32} {off : Int} {tgt : Nat} {c1 c2 : Option (α × zHp)} (hd : zDj M pc (.if_icmp .le off) off pc' tgt) (kt : zG X M cs tgt lv st h c1 K) (kf : zG X M cs pc' lv st h c2 K) : zG X M cs pc lv (.int y :: .int x :: st) h (if x ≤ y then c1 else c2) K := by
  obtain ⟨hd, rfl, ht⟩ := hd
  obtain ⟨p, l, e, R, s, m, args, below, meth, cd, g, Qc⟩ := X
  intro a h' hc hK hok ls H locs hv hR hS
  refine lv_icmp_le hok.1 hok.2.1 hd ht (fun hP => ?_) (fun hP => ?_)
  · rw [if_pos hP] at hc; exact kt a h' hc hK hok ls H locs hv hR hS
  · rw [if_neg hP] at hc; exact kf a h' hc hK hok ls H locs hv hR hS

theorem zg_mmax {x y : Int32} {i : Nat} (hd : zDc M pc (.invokestatic i) 3 pc') (hw : Cond.methodLink M.1 i Lib.Math.max.name ∈ zT) (hf : 1 ≤ M.2.2.2.1) (hlo : (st.map fun v => v.category).sum + 13 ≤ M.2.2.2.2.1) (hcs : cs.1 ≤ M.2.2.2.2.2.2.2.1 ∧ cs.2 ≤ M.2.2.2.2.2.2.2.2) (k : zG X M cs pc' lv (.int (zmx x y) :: st) h c K) : zG X M cs pc lv (.int y :: .int x :: st) h c K := by
  obtain ⟨hd, rfl⟩ := hd
  obtain ⟨p, l, e, R, s, m, args, below, meth, cd, g, Qc⟩ := X
  intro a h' hc hK hok ls H locs hv hR hS
  exact va_mmax hok.1 hok.2.1 (by rw [hok.2.2.1]; exact hv.1.symm) hok.2.2.2.1 (hok.2.2.2.2.1 _ hw) (hok.2.2.2.2.1 _ zw_maxs) (hok.2.2.2.2.1 _ zw_Math) (hok.2.2.2.2.1 _ zw_maxc) (by rw [hok.2.2.2.2.2.2.2.2.2.1]; exact hf) (by rw [hok.2.2.2.2.2.2.2.2.2.2.1]; exact hlo) (by rw [hok.2.2.2.2.2.2.2.2.2.2.2.1]; exact hcs.1) (by rw [hok.2.2.2.2.2.2.2.2.2.2.2.2]; exact hcs.2) hd (k a h' hc hK hok ls H locs hv hR hS)

theorem zg_mmin {x y : Int32} {i : Nat} (hd : zDc M pc (.invokestatic i) 3 pc') (hw : Cond.methodLink M.1 i Lib.Math.min.name ∈ zT) (hf : 1 ≤ M.2.2.2.1) (hlo : (st.map fun v => v.category).sum + 13 ≤ M.2.2.2.2.1) (hcs : cs.1 ≤ M.2.2.2.2.2.2.2.1 ∧ cs.2 ≤ M.2.2.2.2.2.2.2.2) (k : zG X M cs pc' lv (.int (zmn x y) :: st) h c K) : zG X M cs pc lv (.int y :: .int x :: st) h c K := by
  obtain ⟨hd, rfl⟩ := hd
  obtain ⟨p, l, e, R, s, m, args, below, meth, cd, g, Qc⟩ := X
  intro a h' hc hK hok ls H locs hv hR hS
  exact va_mmin hok.1 hok.2.1 (by rw [hok.2.2.1]; exact hv.1.symm) hok.2.2.2.1 (hok.2.2.2.2.1 _ hw) (hok.2.2.2.2.1 _ zw_mins) (hok.2.2.2.2.1 _ zw_Math) (hok.2.2.2.2.1 _ zw_minc) (by rw [hok.2.2.2.2.2.2.2.2.2.1]; exact hf) (by rw [hok.2.2.2.2.2.2.2.2.2.2.1]; exact hlo) (by rw [hok.2.2.2.2.2.2.2.2.2.2.2.1]; exact hcs.1) (by rw [hok.2.2.2.2.2.2.2.2.2.2.2.2]; exact hcs.2) hd (k a h' hc hK hok ls H locs hv hR hS)

theorem zg_mabs {x : Int32} {i : Nat} (hd : zDc M pc (.invokestatic i) 3 pc') (hw : Cond.methodLink M.1 i Lib.Math.abs.name ∈ zT) (hf : 1 ≤ M.2.2.2.1) (hlo : (st.map fun v => v.category).sum + 13 ≤ M.2.2.2.2.1) (hcs : cs.1 ≤ M.2.2.2.2.2.2.2.1 ∧ cs.2 ≤ M.2.2.2.2.2.2.2.2) (k : zG X M cs pc' lv (.int (zab x) :: st) h c K) : zG X M cs pc lv (.int x :: st) h c K := by
  obtain ⟨hd, rfl⟩ := hd
  obtain ⟨p, l, e, R, s, m, args, below, meth, cd, g, Qc⟩ := X
  intro a h' hc hK hok ls H locs hv hR hS
  exact va_mabs hok.1 hok.2.1 (by rw [hok.2.2.1]; exact hv.1.symm) hok.2.2.2.1 (hok.2.2.2.2.1 _ hw) (hok.2.2.2.2.1 _ zw_abss) (hok.2.2.2.2.1 _ zw_Math) (hok.2.2.2.2.1 _ zw_absc) (by rw [hok.2.2.2.2.2.2.2.2.2.1]; exact hf) (by rw [hok.2.2.2.2.2.2.2.2.2.2.1]; exact hlo) (by rw [hok.2.2.2.2.2.2.2.2.2.2.2.1]; exact hcs.1) (by rw [hok.2.2.2.2.2.2.2.2.2.2.2.2]; exact hcs.2) hd (k a h' hc hK hok ls H locs hv hR hS)

theorem zg_mmaxL {x y : Int64} {i : Nat} (hd : zDc M pc (.invokestatic i) 3 pc') (hw : Cond.methodLink M.1 i Lib.MathLoose.max_long.x ∈ zT) (hf : 1 ≤ M.2.2.2.1) (hlo : (st.map fun v => v.category).sum + 15 ≤ M.2.2.2.2.1) (hcs : cs.1 ≤ M.2.2.2.2.2.2.2.1 ∧ cs.2 ≤ M.2.2.2.2.2.2.2.2) (k : zG X M cs pc' lv (.long (zmxL x y) :: st) h c K) : zG X M cs pc lv (.long y :: .long x :: st) h c K := by
  obtain ⟨hd, rfl⟩ := hd
  obtain ⟨p, l, e, R, s, m, args, below, meth, cd, g, Qc⟩ := X
  intro a h' hc hK hok ls H locs hv hR hS
  exact va_mmax_long hok.1 hok.2.1 (by rw [hok.2.2.1]; exact hv.1.symm) hok.2.2.2.1 (hok.2.2.2.2.1 _ hw) (hok.2.2.2.2.1 _ zw_maxLs) (hok.2.2.2.2.1 _ zw_Math) (hok.2.2.2.2.1 _ zw_maxLc) (by rw [hok.2.2.2.2.2.2.2.2.2.1]; exact hf) (by rw [hok.2.2.2.2.2.2.2.2.2.2.1]; exact hlo) (by rw [hok.2.2.2.2.2.2.2.2.2.2.2.1]; exact hcs.1) (by rw [hok.2.2.2.2.2.2.2.2.2.2.2.2]; exact hcs.2) hd (k a h' hc hK hok ls H locs hv hR hS)

theorem zg_mminL {x y : Int64} {i : Nat} (hd : zDc M pc (.invokestatic i) 3 pc') (hw : Cond.methodLink M.1 i Lib.MathLoose.min_long.x ∈ zT) (hf : 1 ≤ M.2.2.2.1) (hlo : (st.map fun v => v.category).sum + 15 ≤ M.2.2.2.2.1) (hcs : cs.1 ≤ M.2.2.2.2.2.2.2.1 ∧ cs.2 ≤ M.2.2.2.2.2.2.2.2) (k : zG X M cs pc' lv (.long (zmnL x y) :: st) h c K) : zG X M cs pc lv (.long y :: .long x :: st) h c K := by
  obtain ⟨hd, rfl⟩ := hd
  obtain ⟨p, l, e, R, s, m, args, below, meth, cd, g, Qc⟩ := X
  intro a h' hc hK hok ls H locs hv hR hS
  exact va_mmin_long hok.1 hok.2.1 (by rw [hok.2.2.1]; exact hv.1.symm) hok.2.2.2.1 (hok.2.2.2.2.1 _ hw) (hok.2.2.2.2.1 _ zw_minLs) (hok.2.2.2.2.1 _ zw_Math) (hok.2.2.2.2.1 _ zw_minLc) (by rw [hok.2.2.2.2.2.2.2.2.2.1]; exact hf) (by rw [hok.2.2.2.2.2.2.2.2.2.2.1]; exact hlo) (by rw [hok.2.2.2.2.2.2.2.2.2.2.2.1]; exact hcs.1) (by rw [hok.2.2.2.2.2.2.2.2.2.2.2.2]; exact hcs.2) hd (k a h' hc hK hok ls H locs hv hR hS)

theorem zg_mabsL {x : Int64} {i : Nat} (hd : zDc M pc (.invokestatic i) 3 pc') (hw : Cond.methodLink M.1 i Lib.MathLoose.abs_long.x ∈ zT) (hf : 1 ≤ M.2.2.2.1) (hlo : (st.map fun v => v.category).sum + 13 ≤ M.2.2.2.2.1) (hcs : cs.1 ≤ M.2.2.2.2.2.2.2.1 ∧ cs.2 ≤ M.2.2.2.2.2.2.2.2) (k : zG X M cs pc' lv (.long (zabL x) :: st) h c K) : zG X M cs pc lv (.long x :: st) h c K := by
  obtain ⟨hd, rfl⟩ := hd
  obtain ⟨p, l, e, R, s, m, args, below, meth, cd, g, Qc⟩ := X
  intro a h' hc hK hok ls H locs hv hR hS
  exact va_mabs_long hok.1 hok.2.1 (by rw [hok.2.2.1]; exact hv.1.symm) hok.2.2.2.1 (hok.2.2.2.2.1 _ hw) (hok.2.2.2.2.1 _ zw_absLs) (hok.2.2.2.2.1 _ zw_Math) (hok.2.2.2.2.1 _ zw_absLc) (by rw [hok.2.2.2.2.2.2.2.2.2.1]; exact hf) (by rw [hok.2.2.2.2.2.2.2.2.2.2.1]; exact hlo) (by rw [hok.2.2.2.2.2.2.2.2.2.2.2.1]; exact hcs.1) (by rw [hok.2.2.2.2.2.2.2.2.2.2.2.2]; exact hcs.2) hd (k a h' hc hK hok ls H locs hv hR hS)
end ZP

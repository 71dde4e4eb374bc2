/-! arrays of references: Sky[6], and int[6][5] -/
def znM (h : zHp) (n k : Nat) : Option (Nat × zHp) := some (h.2, (fun b => if b = h.2 then some (.inl (5, n, .inr (.inr (.inr (.inr (fun i => if i < n then some (h.2 + 1 + i) else none)))))) else if h.2 < b ∧ b < h.2 + 1 + n then some (.inl (0, k, .inl (fun _ => 0))) else h.1 b, h.2 + 1 + n))
def zsA (h : zHp) (a : Nat) (i : Int32) (v : Nat) : Option zHp := match h.1 a, h.1 v with
  | some (.inl (4, n, .inr (.inr (.inr (.inr f))))), some (.inr (5, _)) => if ¬ (i < 0 ∨ n ≤ i.toNatClampNeg) then some (zwr h a (.inl (4, n, .inr (.inr (.inr (.inr (va_up f i.toNatClampNeg (some v)))))))) else none
  | _, _ => none
theorem zsA_of {h h1 : zHp} {a : Nat} {i : Int32} {v : Nat} (hg : zsA h a i v = some h1) : ∃ (n : Nat) (f : Nat → Option Nat) (fs : List Value), h.1 a = some (.inl (4, n, .inr (.inr (.inr (.inr f))))) ∧ h.1 v = some (.inr (5, fs)) ∧ vp_in i n ∧ h1 = zwr h a (.inl (4, n, .inr (.inr (.inr (.inr (va_up f i.toNatClampNeg (some v))))))) := by
  unfold zsA at hg
  split at hg
  · rename_i n f fs h1' h2'
    split at hg
    · rename_i hc
      cases hg
      exact ⟨n, f, _, h1', h2', hc, rfl⟩
    · cases hg
  · cases hg
theorem zcell_null (cA : ClassId) (n : Nat) : ({ cls := cA, slots := Array.replicate n .null, vm := .none } : Cell) = vp_cell cA (n, .inr (.inr (.inr (.inr (fun _ => none))))) := by
  rw [vp_cell_q]
  exact arrV_new cA n .null
section ZM
variable {α : Type} {X : zCx} {M : zMt} {cs : Nat × Nat} {pc pc' : Nat} {lv : List (Nat × Value)} {st : List Value} {h : zHp} {c : Option (α × zHp)} {K : α → zHp → Prop}
theorem zg_none : zG X M cs pc lv st h (none : Option (α × zHp)) K := fun _ _ hc => by cases hc
theorem zg_anew {i : Nat} {n : Int32} {N : Nat} {f : Nat → zHp → Option (α × zHp)} (cs' : Nat × Nat) (hd : zDc M pc (.anewarray i) 3 pc') (hw : Cond.classLink M.1 i "CloudSchool$Sky" ∈ zT) (hn : ¬ n < 0) (hN : n.toNatClampNeg = N) (hb : N * 4 ≤ 536870912) (hcs : cs.1 + 1 ≤ M.2.2.2.2.2.2.2.1 ∧ cs.2 + N ≤ M.2.2.2.2.2.2.2.2) (hcs' : (cs.1 + 1, cs.2 + N) = cs')
    (kk : ∀ (r : Nat) (h1 : zHp), zG X M cs' pc' lv (.ref r :: st) h1 (f r h1) K) : zG X M cs pc lv (.int n :: st) h (zbd (znA h 4 (N, .inr (.inr (.inr (.inr (fun _ => none)))))) f) K := by
  obtain ⟨hd, rfl⟩ := hd
  subst hcs' hN
  obtain ⟨p, l, e, R, s, m, args, below, meth, cd, g, Qc⟩ := X
  intro a h' hc hK hok ls H locs hv hR hS
  obtain ⟨hx, hbc, hml, hown, hts, hE, hlk, hret, hnm, hRf, hRl, hRc, hRs⟩ := id hok
  refine W.anew (g := F0 m pc ls (.int n :: st)) hx hbc hown (hts _ hw) ((hE.2.1.2.2.2.2.2.2.2.2.1).use) rfl hd rfl hn hb (by rw [hRc]; exact hcs.1) (by rw [hRs]; exact hcs.2) fun cA kA comp f1 f2 f3 f4 => ?_
  obtain ⟨kA', comp', k1, k2, k3, k4⟩ := (hE.1.2 4 _ rfl).2
  have hcA : cA = g.2.1 4 := Option.some.inj (f1.symm.trans k4)
  subst hcA
  have hz : H.size < (H.push { cls := g.2.1 4, slots := Array.replicate n.toNatClampNeg .null, vm := .none }).size := by simp
  have o1 : ∀ q : Nat, q < H.size → (H.push { cls := g.2.1 4, slots := Array.replicate n.toNatClampNeg .null, vm := .none })[q]? = H[q]? := fun q hq => by rw [Array.getElem?_push, if_neg (Nat.ne_of_lt hq)]
  rw [hR.2]
  exact kk h.2 _ a h' hc hK hok ls _ locs hv (hR.nw (Nat.le_trans hE.2.2.2 hS.1) (by show (H.push _)[H.size]? = some (vp_cell _ _); rw [← zcell_null]; simp) (by simp) o1) ⟨Nat.le_trans hS.1 (by simp), fun x q1 q2 => (o1 x (Nat.lt_of_lt_of_le q1 hS.1)).trans (hS.2.1 x q1 q2), hS.2.2⟩
theorem zg_aast {b v : Nat} {j : Int32} {f : zHp → Option (α × zHp)} (hd : zDc M pc .aastore 1 pc') (kk : ∀ h1 : zHp, zG X M cs pc' lv st h1 (f h1) K) : zG X M cs pc lv (.ref v :: .int j :: .ref b :: st) h (zob (zsA h b j v) f) K := by
  obtain ⟨hd, rfl⟩ := hd
  obtain ⟨p, l, e, R, s, m, args, below, meth, cd, g, Qc⟩ := X
  intro a h' hc hK hok ls H locs hv hR hS
  cases hq : zsA h b j v with
  | none => rw [hq] at hc; cases hc
  | some h1 =>
    rw [hq] at hc
    obtain ⟨n, ff, fs, hb, hvv, hin, rfl⟩ := zsA_of hq
    obtain ⟨hx, hbc, hml, hown, hts, hE, -⟩ := id hok
    have hlt : j.toNatClampNeg < n := Nat.not_le.mp fun q => hin (Or.inr q)
    have h0 : ¬ j < 0 := fun q => hin (Or.inl q)
    have hcell : H[b]? = some (arrV (g.2.1 4) n (fun j => va_rf (ff j))) := (hR.1 b _ hb).2
    obtain ⟨r', hr', cellV, g1, g2, g3, -⟩ := (hR.1 v _ hvv).2
    have hcls := (hE.1.1 5 _ rfl).2
    obtain ⟨kA, comp, k1, k2, k3, -⟩ := (hE.1.2 4 _ rfl).2
    have hcomp : comp = g.1.1 5 := Option.some.inj (k3.symm.trans hcls.1)
    subst hcomp
    obtain ⟨kC, hkC, -⟩ := hcls.2
    refine W.aast hx hbc hcell (fun q z => by cases z) (fun z => by cases z) k1 k2 rfl hkC ⟨h0, by rw [arrV_size]; exact hlt⟩ g1 (fun q z => by rw [g3] at z; cases z) (by rw [g2]; exact hkC) (by rw [g2]; exact va_assign hcls) rfl rfl hd fun H1 e1 z oq => ?_
    have e2 : H1[b]? = some (vp_cell (g.2.1 4) (n, .inr (.inr (.inr (.inr (va_up ff j.toNatClampNeg (some v))))))) := by
      rw [e1, vp_cell_q, arrV_store]
      congr 2
      funext q
      by_cases hq : q = j.toNatClampNeg
      · subst hq
        simp [updV, va_up, va_rf]
      · simp [updV, va_up, hq]
    exact kk _ a h' hc hK hok ls H1 _ hv (hR.wr hb e2 z oq) (hS.put z oq (hR.1 b _ hb).1)
theorem zouter (c : ClassId) (N h0 : Nat) : ∀ i : Nat, Jvm.Free.Multi.outerC c N h0 i = arrV c N (fun j => va_rf (if j < i then some (h0 + 1 + j) else none))
  | 0 => by
    show ({ cls := c, slots := Array.replicate N .null, vm := .none } : Cell) = _
    rw [zcell_null, vp_cell_q]
    refine congrArg (arrV c N) (funext fun j => ?_)
    simp [va_rf]
  | i + 1 => by
    show (Jvm.Free.Multi.outerC c N h0 i).setSlot i (.ref (h0 + 1 + i)) = _
    rw [zouter c N h0 i, arrV_store]
    refine congrArg (arrV c N) (funext fun j => ?_)
    by_cases e : j = i
    · subst e
      simp [updV, va_rf]
    · by_cases hh : j < i
      · simp [updV, e, hh, Nat.lt_succ_of_lt hh]
      · simp [updV, e, hh, show ¬ j < i + 1 by omega]
theorem zg_mna {i : Nat} {n k : Int32} {N N' : Nat} {f : Nat → zHp → Option (α × zHp)} (cs' : Nat × Nat) (hd : zDc M pc (.multianewarray i 2) 4 pc') (hw : Cond.classLink M.1 i "[[I" ∈ zT) (hw2 : Cond.arrayClass .int ∈ zT) (hn : ¬ n < 0) (hk : ¬ k < 0) (hN : n.toNatClampNeg = N) (hN' : k.toNatClampNeg = N') (hb : N * 4 ≤ 536870912) (hb' : N' * 4 ≤ 536870912) (hcs : cs.1 + (1 + N) ≤ M.2.2.2.2.2.2.2.1 ∧ cs.2 + (N + N * N') ≤ M.2.2.2.2.2.2.2.2) (hcs' : (cs.1 + 1 + N, cs.2 + N + N * N') = cs')
    (kk : ∀ (r : Nat) (h1 : zHp), zG X M cs' pc' lv (.ref r :: st) h1 (f r h1) K) : zG X M cs pc lv (.int k :: .int n :: st) h (zbd (znM h N N') f) K := by
  obtain ⟨hd, rfl⟩ := hd
  subst hcs' hN hN'
  obtain ⟨p, l, e, R, s, m, args, below, meth, cd, g, Qc⟩ := X
  intro a h' hc hK hok ls H locs hv hR hS
  obtain ⟨hx, hbc, hml, hown, hts, hE, hlk, hret, hnm, hRf, hRl, hRc, hRs⟩ := id hok
  intro T hT Xs
  obtain ⟨vm₁, cA, comp, -, fA, fC, hO, -, X', step⟩ := Xs.multianewarray2F hx hown (index := i) (ty := .int) (hts _ hw) (show (Cond.arrayOver (.array .int)).before args s = true from hE.2.1.2.2.2.2.2.2.2.2.2) (hts _ hw2) (g := F0 m pc ls (.int k :: .int n :: st)) rfl (by rw [hbc]; exact hd) rfl hn hk hb hb' (by omega) rfl rfl (by rw [hRc]; exact hcs.1) (by rw [hRs]; exact hcs.2)
  have hcA : cA = g.2.1 5 := Option.some.inj (fA.symm.trans (hE.1.2 5 _ rfl).2)
  subst hcA
  have hcC : comp = g.2.1 0 := Option.some.inj (fC.symm.trans (hE.1.2 0 _ rfl).2)
  subst hcC
  generalize hF : Jvm.Free.Multi.fill (T.setVm vm₁) (g.2.1 5) (g.2.1 0) n.toNatClampNeg k.toNatClampNeg (defaultValue .int) n.toNatClampNeg = F at X' step
  have hTh : (T.setVm vm₁).heap = H := hT
  obtain ⟨f1, f2, -, -⟩ := Jvm.Free.Multi.fill_facts (T.setVm vm₁) (g.2.1 5) (g.2.1 0) n.toNatClampNeg k.toNatClampNeg (defaultValue .int) n.toNatClampNeg
  rw [hF, hTh] at f1 f2
  have hold : ∀ x : Nat, x < H.size → F.heap[x]? = H[x]? := fun x hx => by
    have := Jvm.Free.Multi.fill_old (T.setVm vm₁) (g.2.1 5) (g.2.1 0) n.toNatClampNeg k.toNatClampNeg (defaultValue .int) (a := x) (by rw [hTh]; exact hx) n.toNatClampNeg
    rw [hF, hTh] at this
    exact this
  have hrow : ∀ j : Nat, j < n.toNatClampNeg → F.heap[H.size + 1 + j]? = some (vp_cell (g.2.1 0) (k.toNatClampNeg, .inl (fun _ => 0))) := fun j hj => by
    have := Jvm.Free.Multi.fill_inner (T.setVm vm₁) (g.2.1 5) (g.2.1 0) n.toNatClampNeg k.toNatClampNeg (defaultValue .int) n.toNatClampNeg j hj
    rw [hF, hTh] at this
    rw [this, vp_cell_i]
    exact congrArg some (arrV_new (g.2.1 0) k.toNatClampNeg (.int 0))
  rw [zouter] at f2
  have hn0 : g.2.2.1 ≤ H.size := Nat.le_trans hE.2.2.2 hS.1
  obtain ⟨t, a1, b1⟩ := kk h.2 _ a h' hc hK hok ls F.heap locs hv ⟨fun b d hb => by
      have e2 := hR.2
      by_cases q1 : b = h.2
      · simp only [q1, if_true] at hb
        cases hb
        rw [q1, ← e2]
        exact ⟨hn0, by show F.heap[H.size]? = some (vp_cell _ _); rw [vp_cell_q, f2]⟩
      · by_cases q2 : h.2 < b ∧ b < h.2 + 1 + n.toNatClampNeg
        · simp only [q1, q2, if_false, and_self, if_true] at hb
          cases hb
          refine ⟨by omega, ?_⟩
          have := hrow (b - (H.size + 1)) (by omega)
          rw [show H.size + 1 + (b - (H.size + 1)) = b by omega] at this
          exact this
        · simp only [q1, q2, if_false] at hb
          exact ⟨(hR.1 b d hb).1, (hR.1 b d hb).2.kept (hold b (hR.1 b d hb).2.lt)⟩, by show F.heap.size = h.2 + 1 + n.toNatClampNeg; rw [f1, hR.2]⟩ ⟨Nat.le_trans hS.1 (by rw [f1]; omega), fun x q1 q2 => (hold x (Nat.lt_of_lt_of_le q1 hS.1)).trans (hS.2.1 x q1 q2), hS.2.2⟩ F rfl X'
  exact ⟨t, step t (by show Steps p.tables e below (F.setTop { method := m, pc := pc + 4, locals := ls, stack := .ref T.heap.size :: st, locked := none }) t; rw [hT, hR.2]; exact a1), b1⟩
end ZM

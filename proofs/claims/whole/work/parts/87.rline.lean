/-! the reference's lines: what they write -/
def yRLn (k i : Nat) : Prop := (k = 213 ∧ 23 ≤ i ∧ i ≤ 28) ∨ (k = 215 ∧ 8 ≤ i) ∨ (k = 216 ∧ 24 ≤ i) ∨ ((k = 217 ∨ k = 218 ∨ k = 219) ∧ 5 ≤ i) ∨ ((k = 220 ∨ k = 221 ∨ k = 222 ∨ k = 223) ∧ 8 ≤ i) ∨ ((k = 224 ∨ k = 225 ∨ k = 226) ∧ 6 ≤ i) ∨ (k = 227 ∧ 12 ≤ i)
section
variable {M : zMem} {b : Nat → Nat} {n p : Nat} {f : Nat × Nat} {T : yT} {la : Nat → Nat} {α : Type} {Q : α → zMem → Prop}
theorem yRF.keep {M' : zMem} {P : Nat → Nat → Prop} (h : yRF M f) (fr : zfr P M M') (h1 : ¬ P 213 27) (h2 : ¬ P 213 28) : yRF M' f := ⟨h.1, (fr _ _ h1).trans h.2.1, (fr _ _ h2).trans h.2.2⟩
theorem r_wrf (cg : yRF M f) {k j : Nat} {i v : Int32} (ei : i = Int32.ofNat j) (hj : j < (zds k).2) (hz : (zds k).2 < 1000) (hk : ¬ k = 213) (hl : yRLn k j) {g : zMem → Option (α × zMem)}
    (kk : ∀ M', yRF M' f → zfr (fun k' i => k' = k ∧ i = j) M M' → zfr yRLn M M' → zwp (g M') Q) : zwp (zob (mwr M k i v) g) Q := by
  rw [ei, mwr_of (k := k) (j := j) hj (by omega), zob_some]
  have fr : zfr (fun k' i => k' = k ∧ i = j) M (mup M k j v) := zfr_mup ⟨rfl, rfl⟩
  exact kk _ (cg.keep fr (fun z => hk z.1.symm) (fun z => hk z.1.symm)) fr (zfr_weak fr (by rintro k' i ⟨rfl, rfl⟩; exact hl))
theorem r_wrg (cb : yRG M b n p) (ct : yRU M T la) {k j : Nat} {i v : Int32} (ei : i = Int32.ofNat j) (hj : j < (zds k).2) (hz : (zds k).2 < 1000) (hk : 214 < k) (hl : yRLn k j) (hd : yDeae T k j) {g : zMem → Option (α × zMem)}
    (kk : ∀ M', yRG M' b n p → yRU M' T la → M'.1 k j = v → zfr (fun k' i => k' = k ∧ i = j) M M' → zfr yRLn M M' → zwp (g M') Q) : zwp (zob (mwr M k i v) g) Q := by
  rw [ei, mwr_of (k := k) (j := j) hj (by omega), zob_some]
  have fr : zfr (fun k' i => k' = k ∧ i = j) M (mup M k j v) := zfr_mup ⟨rfl, rfl⟩
  refine kk _ (cb.keep fr (by rintro k' i ⟨rfl, rfl⟩; exact Or.inr hk) (by rw [fr 213 27 (fun z => by omega)]; exact cb.2.2.1) (cb.2.2.2.keep fr (fun i z => by omega))) (ct.keepD fr (by rintro k' i ⟨rfl, rfl⟩; exact hd)) mup_on fr (zfr_weak fr (by rintro k' i ⟨rfl, rfl⟩; exact hl))
theorem r_fresher {a : Nat} (ha : a < 8) : m_X8_fresher (Int32.ofNat a) M = some (M.1 215 (8 + a), M) := by
  unfold m_X8_fresher
  rw [mrd_of (k := 215) (j := 8 + a) (by show 8 + a < 16; omega), zob_some]
theorem r_reads {a : Nat} (ha : a < 8) (v : Int32) : m_X8_reads (Int32.ofNat a) v M = some ((), mup M 215 (8 + a) v) := by
  unfold m_X8_reads
  rw [mwr_of (k := 215) (j := 8 + a) (by show 8 + a < 16; omega), zob_some]
theorem yRU.rd (ct : yRU M T la) {M' : zMem} {P : Nat → Nat → Prop} (fr : zfr P M M') (hP : ∀ k i, P k i → k = 213) : yRU M' T la :=
  ct.keepD fr (fun k i z => by have := hP k i z; left; omega)
end

/-! an hour, apart from how either side keeps it -/
def ymove (w : Int32) (k : Nat) : Option Nat :=
  if w = 1 then (if k % 6 = 5 then none else some (k + 1))
  else if w = 3 then (if k % 6 = 0 then none else some (k - 1))
  else if w = 2 then (if k / 6 = 3 then none else some (k + 6))
  else if w = 4 then (if k / 6 = 0 then none else some (k - 6))
  else some k
def ymv (w : Int32) (c : Nat) (S : yA) : yA := match ymove w (S.cell c) with
  | some k => (yA.w_cell S (yu S.cell c k))
  | none => (yA.w_state S (yu S.state c 2))
def ybear1 (T : yT) (c : Nat) (S : yA) : yA := if S.state c = 0 ∧ T.bat c = Int32.ofNat S.hour then (yA.w_state S (yu S.state c 1)) else S
def ydrift1 (w : Int32) (c : Nat) (S : yA) : yA := if S.state c = 1 then ymv w c S else S
def ygrow1 (T : yT) (o : Int32) (c : Nat) (S : yA) : yA := if S.state c = 1 then (yA.w_size S (yu S.size c (zmn 20 (S.size c + ybd (ywo T o S 0 c) 9 (if ygr T o (S.cell c) = 1 then 1 else 0))))) else S
def yjoin2 (a b : Nat) (S : yA) : yA := if S.state a = 1 ∧ S.state b = 1 ∧ S.cell a = S.cell b then
    (if S.size a < S.size b then (yA.w_state (yA.w_size S (yu S.size b (zmn 20 (S.size a + S.size b)))) (yu S.state a 3))
     else (yA.w_state (yA.w_size S (yu S.size a (zmn 20 (S.size a + S.size b)))) (yu S.state b 3)))
  else S
def yjoin1 (n a : Nat) (S : yA) : yA := zfd (fun b S => if a < b then yjoin2 a b S else S) n S
def ywet1 (T : yT) (c : Nat) (v : Int32) (f : Nat) (S : yA) : yA := if T.fcell f = S.cell c then
    (if S.owner c = -1 then (yA.w_got S (yu S.got f (S.got f + v)))
     else (yA.w_rained (yA.w_got S (yu S.got f (S.got f + v))) (yu S.rained (yown1 S c) (yu (S.rained (yown1 S c)) f (S.rained (yown1 S c) f + v)))))
  else S
def ydry (c : Nat) (v : Int32) (S : yA) : yA :=
  if S.size c - v = 0 then (yA.w_state (yA.w_size S (yu S.size c (S.size c - v))) (yu S.state c 4)) else (yA.w_size S (yu S.size c (S.size c - v)))
def yfv (T : yT) (o : Int32) (c : Nat) (S : yA) : Int32 := ybd (ywo T o S 1 c) (S.size c) (zmx 1 (S.size c / 2))
def yfall1 (T : yT) (o : Int32) (c : Nat) (S : yA) : yA := if S.state c = 1 ∧ (T.rain ≤ S.size c ∨ ygr T o (S.cell c) = 2) then
    ydry c (yfv T o c S) (zfd (ywet1 T c (yfv T o c S)) T.nf S)
  else S
def ywho (T : yT) (S : yA) (c : Nat) : Nat → Int32 × Int32 := fun n => zfd (fun h b => if ¬ T.sight h < yfar (S.pos h) (S.cell c) ∧ yown S (Int32.ofNat h) T.nc < b.2 then (Int32.ofNat h, yown S (Int32.ofNat h) T.nc) else b) n (-1, T.most)
def ygive1 (T : yT) (c : Nat) (S : yA) : yA := if S.state c = 1 ∧ S.owner c = -1 then (yA.w_owner S (yu S.owner c (ywho T S c T.nh).1)) else S
def ymark2 (T : yT) (o : Int32) (h c : Nat) (S : yA) : yA := if S.state c = 1 ∧ S.owner c = Int32.ofNat h then
    (yA.w_marks S (yu S.marks h (S.marks h + ybd (ywo T o S 2 c) 9 (if T.sight h < yfar (S.pos h) (S.cell c) then 0 else 1)))) else S
def ymark1 (T : yT) (o : Int32) (h : Nat) (S : yA) : yA := zfd (ymark2 T o h) T.nc S
def yage1 (c : Nat) (S : yA) : yA := if S.state c = 1 then (yA.w_age S (yu S.age c (S.age c + 1))) else S
def yhour (S : yA) : yA := (yA.w_hour S (S.hour + 1))
def ypass (T : yT) (o w : Int32) (S : yA) : yA :=
  yhour (zfd yage1 T.nc (zfd (ymark1 T o) T.nh (zfd (ygive1 T) T.nc (zfd (yfall1 T o) T.nc ((if o = 4 then id else zfd (yjoin1 T.nc) T.nc) (zfd (ygrow1 T o) T.nc (zfd (ydrift1 w) T.nc (zfd (ybear1 T) T.nc S))))))))
theorem yA_ext {S S' : yA} (h1 : S.hour = S'.hour) (h2 : S.blown = S'.blown) (h3 : S.cell = S'.cell) (h4 : S.size = S'.size) (h5 : S.age = S'.age) (h6 : S.owner = S'.owner) (h7 : S.state = S'.state) (h8 : S.pos = S'.pos) (h9 : S.marks = S'.marks) (h10 : S.got = S'.got) (h11 : S.rained = S'.rained) : S = S' := by
  obtain ⟨a1, a2, a3, a4, a5, a6, a7, a8, a9, a10, a11⟩ := S
  obtain ⟨b1, b2, b3, b4, b5, b6, b7, b8, b9, b10, b11⟩ := S'
  obtain rfl : a1 = b1 := h1
  obtain rfl : a2 = b2 := h2
  obtain rfl : a3 = b3 := h3
  obtain rfl : a4 = b4 := h4
  obtain rfl : a5 = b5 := h5
  obtain rfl : a6 = b6 := h6
  obtain rfl : a7 = b7 := h7
  obtain rfl : a8 = b8 := h8
  obtain rfl : a9 = b9 := h9
  obtain rfl : a10 = b10 := h10
  obtain rfl : a11 = b11 := h11
  rfl
theorem yu_id {γ : Type} {f : Nat → γ} {k : Nat} : yu f k (f k) = f := by
  funext j
  unfold yu
  split
  · next e => rw [e]
  · rfl
theorem yu_comm {γ : Type} {f : Nat → γ} {a b : Nat} {x y : γ} (h : a ≠ b) : yu (yu f a x) b y = yu (yu f b y) a x := by
  funext j
  unfold yu
  by_cases e1 : j = a <;> by_cases e2 : j = b <;> simp [e1, e2]
  · omega
  · intro e; exact absurd e (by omega)
  · intro e; exact absurd e.symm (by omega)

/-! What is told, and a sky, apart from how either side keeps them. -/
abbrev yK : Type := Int32 ⊕ (Nat ⊕ Nat)
/-- the class's code, the reference's sort and value -/
def yKc : yK → Int32
  | .inl v => v
  | .inr (.inl i) => (Int32.ofNat (16 + i)) ^^^ (-1)
  | .inr (.inr o) => (Int32.ofNat o) ^^^ (-1)
def yKs : yK → Int32
  | .inl _ => 0
  | .inr (.inl _) => 1
  | .inr (.inr _) => 2
def yKo (o : Nat) : Int32 := if o = 13 then 262 else if o = 14 then 261 else if o = 15 then 260 else if o = 23 then 43 else if o = 24 then 45 else if o = 25 then 42 else if o = 26 then 47 else if o = 27 then 60 else if o = 28 then 256 else if o = 29 then 61 else if o = 30 then 257 else if o = 31 then 258 else 62
def yKv : yK → Int32
  | .inl v => v
  | .inr (.inl i) => Int32.ofNat i
  | .inr (.inr o) => yKo o
/-- a law's knots, from a stack of d on, end with one value -/
def ywf : List yK → Nat → Prop
  | [], d => d = 1
  | .inl v :: l, d => ¬ v < 0 ∧ ywf l (d + 1)
  | .inr (.inl i) :: l, d => i < 7 ∧ ywf l (d + 1)
  | .inr (.inr o) :: l, d => (o = 15 ∧ 1 ≤ d ∧ ywf l d) ∨ ((o = 13 ∨ o = 14 ∨ (23 ≤ o ∧ o ≤ 32)) ∧ 2 ≤ d ∧ ywf l (d - 1))
def yT : Type := (Nat) × (Nat) × (Nat) × (Nat) × (Int32) × (Int32) × (Int32) × (Nat → Int32) × (Nat → Int32) × (Nat → Nat) × (Nat → Int32) × (Nat → Int32) × (Nat → Nat) × (Nat → Int32) × (Nat → Int32) × (Nat → Int32) × (Nat → Nat) × (Nat → Int32) × (Nat → Int32) × (Nat → List yK)
def yT.mk (nc : Nat) (nh : Nat) (nf : Nat) (nw : Nat) (rain : Int32) (most : Int32) (knots : Int32) (ground : Nat → Int32) (fname : Nat → Int32) (fcell : Nat → Nat) (need : Nat → Int32) (cname : Nat → Int32) (ccell : Nat → Nat) (bsize : Nat → Int32) (bat : Nat → Int32) (hname : Nat → Int32) (hcell : Nat → Nat) (sight : Nat → Int32) (wind : Nat → Int32) (law : Nat → List yK) : yT := (nc, nh, nf, nw, rain, most, knots, ground, fname, fcell, need, cname, ccell, bsize, bat, hname, hcell, sight, wind, law)
def yT.nc (S : yT) : Nat := S.1
def yT.nh (S : yT) : Nat := S.2.1
def yT.nf (S : yT) : Nat := S.2.2.1
def yT.nw (S : yT) : Nat := S.2.2.2.1
def yT.rain (S : yT) : Int32 := S.2.2.2.2.1
def yT.most (S : yT) : Int32 := S.2.2.2.2.2.1
def yT.knots (S : yT) : Int32 := S.2.2.2.2.2.2.1
def yT.ground (S : yT) : Nat → Int32 := S.2.2.2.2.2.2.2.1
def yT.fname (S : yT) : Nat → Int32 := S.2.2.2.2.2.2.2.2.1
def yT.fcell (S : yT) : Nat → Nat := S.2.2.2.2.2.2.2.2.2.1
def yT.need (S : yT) : Nat → Int32 := S.2.2.2.2.2.2.2.2.2.2.1
def yT.cname (S : yT) : Nat → Int32 := S.2.2.2.2.2.2.2.2.2.2.2.1
def yT.ccell (S : yT) : Nat → Nat := S.2.2.2.2.2.2.2.2.2.2.2.2.1
def yT.bsize (S : yT) : Nat → Int32 := S.2.2.2.2.2.2.2.2.2.2.2.2.2.1
def yT.bat (S : yT) : Nat → Int32 := S.2.2.2.2.2.2.2.2.2.2.2.2.2.2.1
def yT.hname (S : yT) : Nat → Int32 := S.2.2.2.2.2.2.2.2.2.2.2.2.2.2.2.1
def yT.hcell (S : yT) : Nat → Nat := S.2.2.2.2.2.2.2.2.2.2.2.2.2.2.2.2.1
def yT.sight (S : yT) : Nat → Int32 := S.2.2.2.2.2.2.2.2.2.2.2.2.2.2.2.2.2.1
def yT.wind (S : yT) : Nat → Int32 := S.2.2.2.2.2.2.2.2.2.2.2.2.2.2.2.2.2.2.1
def yT.law (S : yT) : Nat → List yK := S.2.2.2.2.2.2.2.2.2.2.2.2.2.2.2.2.2.2.2
def yT.w_nc (S : yT) (v : Nat) : yT := (v, S.2.1, S.2.2.1, S.2.2.2.1, S.2.2.2.2.1, S.2.2.2.2.2.1, S.2.2.2.2.2.2.1, S.2.2.2.2.2.2.2.1, S.2.2.2.2.2.2.2.2.1, S.2.2.2.2.2.2.2.2.2.1, S.2.2.2.2.2.2.2.2.2.2.1, S.2.2.2.2.2.2.2.2.2.2.2.1, S.2.2.2.2.2.2.2.2.2.2.2.2.1, S.2.2.2.2.2.2.2.2.2.2.2.2.2.1, S.2.2.2.2.2.2.2.2.2.2.2.2.2.2.1, S.2.2.2.2.2.2.2.2.2.2.2.2.2.2.2.1, S.2.2.2.2.2.2.2.2.2.2.2.2.2.2.2.2.1, S.2.2.2.2.2.2.2.2.2.2.2.2.2.2.2.2.2.1, S.2.2.2.2.2.2.2.2.2.2.2.2.2.2.2.2.2.2.1, S.2.2.2.2.2.2.2.2.2.2.2.2.2.2.2.2.2.2.2)
def yT.w_nh (S : yT) (v : Nat) : yT := (S.1, v, S.2.2.1, S.2.2.2.1, S.2.2.2.2.1, S.2.2.2.2.2.1, S.2.2.2.2.2.2.1, S.2.2.2.2.2.2.2.1, S.2.2.2.2.2.2.2.2.1, S.2.2.2.2.2.2.2.2.2.1, S.2.2.2.2.2.2.2.2.2.2.1, S.2.2.2.2.2.2.2.2.2.2.2.1, S.2.2.2.2.2.2.2.2.2.2.2.2.1, S.2.2.2.2.2.2.2.2.2.2.2.2.2.1, S.2.2.2.2.2.2.2.2.2.2.2.2.2.2.1, S.2.2.2.2.2.2.2.2.2.2.2.2.2.2.2.1, S.2.2.2.2.2.2.2.2.2.2.2.2.2.2.2.2.1, S.2.2.2.2.2.2.2.2.2.2.2.2.2.2.2.2.2.1, S.2.2.2.2.2.2.2.2.2.2.2.2.2.2.2.2.2.2.1, S.2.2.2.2.2.2.2.2.2.2.2.2.2.2.2.2.2.2.2)
def yT.w_nf (S : yT) (v : Nat) : yT := (S.1, S.2.1, v, S.2.2.2.1, S.2.2.2.2.1, S.2.2.2.2.2.1, S.2.2.2.2.2.2.1, S.2.2.2.2.2.2.2.1, S.2.2.2.2.2.2.2.2.1, S.2.2.2.2.2.2.2.2.2.1, S.2.2.2.2.2.2.2.2.2.2.1, S.2.2.2.2.2.2.2.2.2.2.2.1, S.2.2.2.2.2.2.2.2.2.2.2.2.1, S.2.2.2.2.2.2.2.2.2.2.2.2.2.1, S.2.2.2.2.2.2.2.2.2.2.2.2.2.2.1, S.2.2.2.2.2.2.2.2.2.2.2.2.2.2.2.1, S.2.2.2.2.2.2.2.2.2.2.2.2.2.2.2.2.1, S.2.2.2.2.2.2.2.2.2.2.2.2.2.2.2.2.2.1, S.2.2.2.2.2.2.2.2.2.2.2.2.2.2.2.2.2.2.1, S.2.2.2.2.2.2.2.2.2.2.2.2.2.2.2.2.2.2.2)
def yT.w_nw (S : yT) (v : Nat) : yT := (S.1, S.2.1, S.2.2.1, v, S.2.2.2.2.1, S.2.2.2.2.2.1, S.2.2.2.2.2.2.1, S.2.2.2.2.2.2.2.1, S.2.2.2.2.2.2.2.2.1, S.2.2.2.2.2.2.2.2.2.1, S.2.2.2.2.2.2.2.2.2.2.1, S.2.2.2.2.2.2.2.2.2.2.2.1, S.2.2.2.2.2.2.2.2.2.2.2.2.1, S.2.2.2.2.2.2.2.2.2.2.2.2.2.1, S.2.2.2.2.2.2.2.2.2.2.2.2.2.2.1, S.2.2.2.2.2.2.2.2.2.2.2.2.2.2.2.1, S.2.2.2.2.2.2.2.2.2.2.2.2.2.2.2.2.1, S.2.2.2.2.2.2.2.2.2.2.2.2.2.2.2.2.2.1, S.2.2.2.2.2.2.2.2.2.2.2.2.2.2.2.2.2.2.1, S.2.2.2.2.2.2.2.2.2.2.2.2.2.2.2.2.2.2.2)
def yT.w_rain (S : yT) (v : Int32) : yT := (S.1, S.2.1, S.2.2.1, S.2.2.2.1, v, S.2.2.2.2.2.1, S.2.2.2.2.2.2.1, S.2.2.2.2.2.2.2.1, S.2.2.2.2.2.2.2.2.1, S.2.2.2.2.2.2.2.2.2.1, S.2.2.2.2.2.2.2.2.2.2.1, S.2.2.2.2.2.2.2.2.2.2.2.1, S.2.2.2.2.2.2.2.2.2.2.2.2.1, S.2.2.2.2.2.2.2.2.2.2.2.2.2.1, S.2.2.2.2.2.2.2.2.2.2.2.2.2.2.1, S.2.2.2.2.2.2.2.2.2.2.2.2.2.2.2.1, S.2.2.2.2.2.2.2.2.2.2.2.2.2.2.2.2.1, S.2.2.2.2.2.2.2.2.2.2.2.2.2.2.2.2.2.1, S.2.2.2.2.2.2.2.2.2.2.2.2.2.2.2.2.2.2.1, S.2.2.2.2.2.2.2.2.2.2.2.2.2.2.2.2.2.2.2)
def yT.w_most (S : yT) (v : Int32) : yT := (S.1, S.2.1, S.2.2.1, S.2.2.2.1, S.2.2.2.2.1, v, S.2.2.2.2.2.2.1, S.2.2.2.2.2.2.2.1, S.2.2.2.2.2.2.2.2.1, S.2.2.2.2.2.2.2.2.2.1, S.2.2.2.2.2.2.2.2.2.2.1, S.2.2.2.2.2.2.2.2.2.2.2.1, S.2.2.2.2.2.2.2.2.2.2.2.2.1, S.2.2.2.2.2.2.2.2.2.2.2.2.2.1, S.2.2.2.2.2.2.2.2.2.2.2.2.2.2.1, S.2.2.2.2.2.2.2.2.2.2.2.2.2.2.2.1, S.2.2.2.2.2.2.2.2.2.2.2.2.2.2.2.2.1, S.2.2.2.2.2.2.2.2.2.2.2.2.2.2.2.2.2.1, S.2.2.2.2.2.2.2.2.2.2.2.2.2.2.2.2.2.2.1, S.2.2.2.2.2.2.2.2.2.2.2.2.2.2.2.2.2.2.2)
def yT.w_knots (S : yT) (v : Int32) : yT := (S.1, S.2.1, S.2.2.1, S.2.2.2.1, S.2.2.2.2.1, S.2.2.2.2.2.1, v, S.2.2.2.2.2.2.2.1, S.2.2.2.2.2.2.2.2.1, S.2.2.2.2.2.2.2.2.2.1, S.2.2.2.2.2.2.2.2.2.2.1, S.2.2.2.2.2.2.2.2.2.2.2.1, S.2.2.2.2.2.2.2.2.2.2.2.2.1, S.2.2.2.2.2.2.2.2.2.2.2.2.2.1, S.2.2.2.2.2.2.2.2.2.2.2.2.2.2.1, S.2.2.2.2.2.2.2.2.2.2.2.2.2.2.2.1, S.2.2.2.2.2.2.2.2.2.2.2.2.2.2.2.2.1, S.2.2.2.2.2.2.2.2.2.2.2.2.2.2.2.2.2.1, S.2.2.2.2.2.2.2.2.2.2.2.2.2.2.2.2.2.2.1, S.2.2.2.2.2.2.2.2.2.2.2.2.2.2.2.2.2.2.2)
def yT.w_ground (S : yT) (v : Nat → Int32) : yT := (S.1, S.2.1, S.2.2.1, S.2.2.2.1, S.2.2.2.2.1, S.2.2.2.2.2.1, S.2.2.2.2.2.2.1, v, S.2.2.2.2.2.2.2.2.1, S.2.2.2.2.2.2.2.2.2.1, S.2.2.2.2.2.2.2.2.2.2.1, S.2.2.2.2.2.2.2.2.2.2.2.1, S.2.2.2.2.2.2.2.2.2.2.2.2.1, S.2.2.2.2.2.2.2.2.2.2.2.2.2.1, S.2.2.2.2.2.2.2.2.2.2.2.2.2.2.1, S.2.2.2.2.2.2.2.2.2.2.2.2.2.2.2.1, S.2.2.2.2.2.2.2.2.2.2.2.2.2.2.2.2.1, S.2.2.2.2.2.2.2.2.2.2.2.2.2.2.2.2.2.1, S.2.2.2.2.2.2.2.2.2.2.2.2.2.2.2.2.2.2.1, S.2.2.2.2.2.2.2.2.2.2.2.2.2.2.2.2.2.2.2)
def yT.w_fname (S : yT) (v : Nat → Int32) : yT := (S.1, S.2.1, S.2.2.1, S.2.2.2.1, S.2.2.2.2.1, S.2.2.2.2.2.1, S.2.2.2.2.2.2.1, S.2.2.2.2.2.2.2.1, v, S.2.2.2.2.2.2.2.2.2.1, S.2.2.2.2.2.2.2.2.2.2.1, S.2.2.2.2.2.2.2.2.2.2.2.1, S.2.2.2.2.2.2.2.2.2.2.2.2.1, S.2.2.2.2.2.2.2.2.2.2.2.2.2.1, S.2.2.2.2.2.2.2.2.2.2.2.2.2.2.1, S.2.2.2.2.2.2.2.2.2.2.2.2.2.2.2.1, S.2.2.2.2.2.2.2.2.2.2.2.2.2.2.2.2.1, S.2.2.2.2.2.2.2.2.2.2.2.2.2.2.2.2.2.1, S.2.2.2.2.2.2.2.2.2.2.2.2.2.2.2.2.2.2.1, S.2.2.2.2.2.2.2.2.2.2.2.2.2.2.2.2.2.2.2)
def yT.w_fcell (S : yT) (v : Nat → Nat) : yT := (S.1, S.2.1, S.2.2.1, S.2.2.2.1, S.2.2.2.2.1, S.2.2.2.2.2.1, S.2.2.2.2.2.2.1, S.2.2.2.2.2.2.2.1, S.2.2.2.2.2.2.2.2.1, v, S.2.2.2.2.2.2.2.2.2.2.1, S.2.2.2.2.2.2.2.2.2.2.2.1, S.2.2.2.2.2.2.2.2.2.2.2.2.1, S.2.2.2.2.2.2.2.2.2.2.2.2.2.1, S.2.2.2.2.2.2.2.2.2.2.2.2.2.2.1, S.2.2.2.2.2.2.2.2.2.2.2.2.2.2.2.1, S.2.2.2.2.2.2.2.2.2.2.2.2.2.2.2.2.1, S.2.2.2.2.2.2.2.2.2.2.2.2.2.2.2.2.2.1, S.2.2.2.2.2.2.2.2.2.2.2.2.2.2.2.2.2.2.1, S.2.2.2.2.2.2.2.2.2.2.2.2.2.2.2.2.2.2.2)
def yT.w_need (S : yT) (v : Nat → Int32) : yT := (S.1, S.2.1, S.2.2.1, S.2.2.2.1, S.2.2.2.2.1, S.2.2.2.2.2.1, S.2.2.2.2.2.2.1, S.2.2.2.2.2.2.2.1, S.2.2.2.2.2.2.2.2.1, S.2.2.2.2.2.2.2.2.2.1, v, S.2.2.2.2.2.2.2.2.2.2.2.1, S.2.2.2.2.2.2.2.2.2.2.2.2.1, S.2.2.2.2.2.2.2.2.2.2.2.2.2.1, S.2.2.2.2.2.2.2.2.2.2.2.2.2.2.1, S.2.2.2.2.2.2.2.2.2.2.2.2.2.2.2.1, S.2.2.2.2.2.2.2.2.2.2.2.2.2.2.2.2.1, S.2.2.2.2.2.2.2.2.2.2.2.2.2.2.2.2.2.1, S.2.2.2.2.2.2.2.2.2.2.2.2.2.2.2.2.2.2.1, S.2.2.2.2.2.2.2.2.2.2.2.2.2.2.2.2.2.2.2)
def yT.w_cname (S : yT) (v : Nat → Int32) : yT := (S.1, S.2.1, S.2.2.1, S.2.2.2.1, S.2.2.2.2.1, S.2.2.2.2.2.1, S.2.2.2.2.2.2.1, S.2.2.2.2.2.2.2.1, S.2.2.2.2.2.2.2.2.1, S.2.2.2.2.2.2.2.2.2.1, S.2.2.2.2.2.2.2.2.2.2.1, v, S.2.2.2.2.2.2.2.2.2.2.2.2.1, S.2.2.2.2.2.2.2.2.2.2.2.2.2.1, S.2.2.2.2.2.2.2.2.2.2.2.2.2.2.1, S.2.2.2.2.2.2.2.2.2.2.2.2.2.2.2.1, S.2.2.2.2.2.2.2.2.2.2.2.2.2.2.2.2.1, S.2.2.2.2.2.2.2.2.2.2.2.2.2.2.2.2.2.1, S.2.2.2.2.2.2.2.2.2.2.2.2.2.2.2.2.2.2.1, S.2.2.2.2.2.2.2.2.2.2.2.2.2.2.2.2.2.2.2)
def yT.w_ccell (S : yT) (v : Nat → Nat) : yT := (S.1, S.2.1, S.2.2.1, S.2.2.2.1, S.2.2.2.2.1, S.2.2.2.2.2.1, S.2.2.2.2.2.2.1, S.2.2.2.2.2.2.2.1, S.2.2.2.2.2.2.2.2.1, S.2.2.2.2.2.2.2.2.2.1, S.2.2.2.2.2.2.2.2.2.2.1, S.2.2.2.2.2.2.2.2.2.2.2.1, v, S.2.2.2.2.2.2.2.2.2.2.2.2.2.1, S.2.2.2.2.2.2.2.2.2.2.2.2.2.2.1, S.2.2.2.2.2.2.2.2.2.2.2.2.2.2.2.1, S.2.2.2.2.2.2.2.2.2.2.2.2.2.2.2.2.1, S.2.2.2.2.2.2.2.2.2.2.2.2.2.2.2.2.2.1, S.2.2.2.2.2.2.2.2.2.2.2.2.2.2.2.2.2.2.1, S.2.2.2.2.2.2.2.2.2.2.2.2.2.2.2.2.2.2.2)
def yT.w_bsize (S : yT) (v : Nat → Int32) : yT := (S.1, S.2.1, S.2.2.1, S.2.2.2.1, S.2.2.2.2.1, S.2.2.2.2.2.1, S.2.2.2.2.2.2.1, S.2.2.2.2.2.2.2.1, S.2.2.2.2.2.2.2.2.1, S.2.2.2.2.2.2.2.2.2.1, S.2.2.2.2.2.2.2.2.2.2.1, S.2.2.2.2.2.2.2.2.2.2.2.1, S.2.2.2.2.2.2.2.2.2.2.2.2.1, v, S.2.2.2.2.2.2.2.2.2.2.2.2.2.2.1, S.2.2.2.2.2.2.2.2.2.2.2.2.2.2.2.1, S.2.2.2.2.2.2.2.2.2.2.2.2.2.2.2.2.1, S.2.2.2.2.2.2.2.2.2.2.2.2.2.2.2.2.2.1, S.2.2.2.2.2.2.2.2.2.2.2.2.2.2.2.2.2.2.1, S.2.2.2.2.2.2.2.2.2.2.2.2.2.2.2.2.2.2.2)
def yT.w_bat (S : yT) (v : Nat → Int32) : yT := (S.1, S.2.1, S.2.2.1, S.2.2.2.1, S.2.2.2.2.1, S.2.2.2.2.2.1, S.2.2.2.2.2.2.1, S.2.2.2.2.2.2.2.1, S.2.2.2.2.2.2.2.2.1, S.2.2.2.2.2.2.2.2.2.1, S.2.2.2.2.2.2.2.2.2.2.1, S.2.2.2.2.2.2.2.2.2.2.2.1, S.2.2.2.2.2.2.2.2.2.2.2.2.1, S.2.2.2.2.2.2.2.2.2.2.2.2.2.1, v, S.2.2.2.2.2.2.2.2.2.2.2.2.2.2.2.1, S.2.2.2.2.2.2.2.2.2.2.2.2.2.2.2.2.1, S.2.2.2.2.2.2.2.2.2.2.2.2.2.2.2.2.2.1, S.2.2.2.2.2.2.2.2.2.2.2.2.2.2.2.2.2.2.1, S.2.2.2.2.2.2.2.2.2.2.2.2.2.2.2.2.2.2.2)
def yT.w_hname (S : yT) (v : Nat → Int32) : yT := (S.1, S.2.1, S.2.2.1, S.2.2.2.1, S.2.2.2.2.1, S.2.2.2.2.2.1, S.2.2.2.2.2.2.1, S.2.2.2.2.2.2.2.1, S.2.2.2.2.2.2.2.2.1, S.2.2.2.2.2.2.2.2.2.1, S.2.2.2.2.2.2.2.2.2.2.1, S.2.2.2.2.2.2.2.2.2.2.2.1, S.2.2.2.2.2.2.2.2.2.2.2.2.1, S.2.2.2.2.2.2.2.2.2.2.2.2.2.1, S.2.2.2.2.2.2.2.2.2.2.2.2.2.2.1, v, S.2.2.2.2.2.2.2.2.2.2.2.2.2.2.2.2.1, S.2.2.2.2.2.2.2.2.2.2.2.2.2.2.2.2.2.1, S.2.2.2.2.2.2.2.2.2.2.2.2.2.2.2.2.2.2.1, S.2.2.2.2.2.2.2.2.2.2.2.2.2.2.2.2.2.2.2)
def yT.w_hcell (S : yT) (v : Nat → Nat) : yT := (S.1, S.2.1, S.2.2.1, S.2.2.2.1, S.2.2.2.2.1, S.2.2.2.2.2.1, S.2.2.2.2.2.2.1, S.2.2.2.2.2.2.2.1, S.2.2.2.2.2.2.2.2.1, S.2.2.2.2.2.2.2.2.2.1, S.2.2.2.2.2.2.2.2.2.2.1, S.2.2.2.2.2.2.2.2.2.2.2.1, S.2.2.2.2.2.2.2.2.2.2.2.2.1, S.2.2.2.2.2.2.2.2.2.2.2.2.2.1, S.2.2.2.2.2.2.2.2.2.2.2.2.2.2.1, S.2.2.2.2.2.2.2.2.2.2.2.2.2.2.2.1, v, S.2.2.2.2.2.2.2.2.2.2.2.2.2.2.2.2.2.1, S.2.2.2.2.2.2.2.2.2.2.2.2.2.2.2.2.2.2.1, S.2.2.2.2.2.2.2.2.2.2.2.2.2.2.2.2.2.2.2)
def yT.w_sight (S : yT) (v : Nat → Int32) : yT := (S.1, S.2.1, S.2.2.1, S.2.2.2.1, S.2.2.2.2.1, S.2.2.2.2.2.1, S.2.2.2.2.2.2.1, S.2.2.2.2.2.2.2.1, S.2.2.2.2.2.2.2.2.1, S.2.2.2.2.2.2.2.2.2.1, S.2.2.2.2.2.2.2.2.2.2.1, S.2.2.2.2.2.2.2.2.2.2.2.1, S.2.2.2.2.2.2.2.2.2.2.2.2.1, S.2.2.2.2.2.2.2.2.2.2.2.2.2.1, S.2.2.2.2.2.2.2.2.2.2.2.2.2.2.1, S.2.2.2.2.2.2.2.2.2.2.2.2.2.2.2.1, S.2.2.2.2.2.2.2.2.2.2.2.2.2.2.2.2.1, v, S.2.2.2.2.2.2.2.2.2.2.2.2.2.2.2.2.2.2.1, S.2.2.2.2.2.2.2.2.2.2.2.2.2.2.2.2.2.2.2)
def yT.w_wind (S : yT) (v : Nat → Int32) : yT := (S.1, S.2.1, S.2.2.1, S.2.2.2.1, S.2.2.2.2.1, S.2.2.2.2.2.1, S.2.2.2.2.2.2.1, S.2.2.2.2.2.2.2.1, S.2.2.2.2.2.2.2.2.1, S.2.2.2.2.2.2.2.2.2.1, S.2.2.2.2.2.2.2.2.2.2.1, S.2.2.2.2.2.2.2.2.2.2.2.1, S.2.2.2.2.2.2.2.2.2.2.2.2.1, S.2.2.2.2.2.2.2.2.2.2.2.2.2.1, S.2.2.2.2.2.2.2.2.2.2.2.2.2.2.1, S.2.2.2.2.2.2.2.2.2.2.2.2.2.2.2.1, S.2.2.2.2.2.2.2.2.2.2.2.2.2.2.2.2.1, S.2.2.2.2.2.2.2.2.2.2.2.2.2.2.2.2.2.1, v, S.2.2.2.2.2.2.2.2.2.2.2.2.2.2.2.2.2.2.2)
def yT.w_law (S : yT) (v : Nat → List yK) : yT := (S.1, S.2.1, S.2.2.1, S.2.2.2.1, S.2.2.2.2.1, S.2.2.2.2.2.1, S.2.2.2.2.2.2.1, S.2.2.2.2.2.2.2.1, S.2.2.2.2.2.2.2.2.1, S.2.2.2.2.2.2.2.2.2.1, S.2.2.2.2.2.2.2.2.2.2.1, S.2.2.2.2.2.2.2.2.2.2.2.1, S.2.2.2.2.2.2.2.2.2.2.2.2.1, S.2.2.2.2.2.2.2.2.2.2.2.2.2.1, S.2.2.2.2.2.2.2.2.2.2.2.2.2.2.1, S.2.2.2.2.2.2.2.2.2.2.2.2.2.2.2.1, S.2.2.2.2.2.2.2.2.2.2.2.2.2.2.2.2.1, S.2.2.2.2.2.2.2.2.2.2.2.2.2.2.2.2.2.1, S.2.2.2.2.2.2.2.2.2.2.2.2.2.2.2.2.2.2.1, v)
def yTok (T : yT) : Prop :=
  (T.nc ≤ 8) ∧
  (T.nh ≤ 6) ∧
  (T.nf ≤ 5) ∧
  (T.nw ≤ 12) ∧
  (∀ f, f < T.nf → T.fcell f < 24) ∧
  (∀ f, f < T.nc → T.ccell f < 24) ∧
  (∀ f, f < T.nh → T.hcell f < 24) ∧
  (∀ k, k < 3 → T.law k = [] ∨ ywf (T.law k) 0) ∧
  (∃ m, 1 ≤ m ∧ m ≤ 9 ∧ T.most = Int32.ofNat m)
theorem yTok.nc {T : yT} (h : yTok T) : T.nc ≤ 8 := h.1
theorem yTok.nh {T : yT} (h : yTok T) : T.nh ≤ 6 := h.2.1
theorem yTok.nf {T : yT} (h : yTok T) : T.nf ≤ 5 := h.2.2.1
theorem yTok.nw {T : yT} (h : yTok T) : T.nw ≤ 12 := h.2.2.2.1
theorem yTok.fcell {T : yT} (h : yTok T) : ∀ f, f < T.nf → T.fcell f < 24 := h.2.2.2.2.1
theorem yTok.ccell {T : yT} (h : yTok T) : ∀ f, f < T.nc → T.ccell f < 24 := h.2.2.2.2.2.1
theorem yTok.hcell {T : yT} (h : yTok T) : ∀ f, f < T.nh → T.hcell f < 24 := h.2.2.2.2.2.2.1
theorem yTok.law {T : yT} (h : yTok T) : ∀ k, k < 3 → T.law k = [] ∨ ywf (T.law k) 0 := h.2.2.2.2.2.2.2.1
theorem yTok.most {T : yT} (h : yTok T) : ∃ m, 1 ≤ m ∧ m ≤ 9 ∧ T.most = Int32.ofNat m := h.2.2.2.2.2.2.2.2
/-- the class's told at t -/
def yCT (M : zMem) (t : Nat) (T : yT) : Prop :=
  (zIT t) ∧
  (M.1 t 13 = Int32.ofNat T.nf) ∧
  (M.1 t 14 = Int32.ofNat T.nc) ∧
  (M.1 t 15 = Int32.ofNat T.nh) ∧
  (M.1 t 16 = Int32.ofNat T.nw) ∧
  (M.1 t 17 = T.rain) ∧
  (M.1 t 18 = T.most) ∧
  (M.1 (t + 13) 5 = T.knots) ∧
  (∀ c, c < 24 → M.1 (t + 1) c = T.ground c) ∧
  (∀ f, f < T.nf → M.1 (t + 2) f = T.fname f) ∧
  (∀ f, f < T.nf → M.1 (t + 3) f = Int32.ofNat (T.fcell f)) ∧
  (∀ f, f < T.nf → M.1 (t + 4) f = T.need f) ∧
  (∀ c, c < T.nc → M.1 (t + 5) c = T.cname c) ∧
  (∀ c, c < T.nc → M.1 (t + 6) c = Int32.ofNat (T.ccell c)) ∧
  (∀ c, c < T.nc → M.1 (t + 7) c = T.bsize c) ∧
  (∀ c, c < T.nc → M.1 (t + 8) c = T.bat c) ∧
  (∀ c, c < T.nh → M.1 (t + 9) c = T.hname c) ∧
  (∀ c, c < T.nh → M.1 (t + 10) c = Int32.ofNat (T.hcell c)) ∧
  (∀ c, c < T.nh → M.1 (t + 11) c = T.sight c) ∧
  (∀ c, c < T.nw → M.1 (t + 12) c = T.wind c) ∧
  (∀ k, k < 3 → ∃ a, a + (T.law k).length ≤ 64 ∧ M.1 (t + 13 + 2) k = Int32.ofNat a ∧ M.1 (t + 13 + 3) k = Int32.ofNat (a + (T.law k).length) ∧ ∀ j, (hj : j < (T.law k).length) → M.1 (t + 13 + 1) (a + j) = yKc ((T.law k)[j]))
theorem yCT.tt {M : zMem} {t : Nat} {T : yT} (h : yCT M t T) : zIT t := h.1
theorem yCT.nf {M : zMem} {t : Nat} {T : yT} (h : yCT M t T) : M.1 t 13 = Int32.ofNat T.nf := h.2.1
theorem yCT.nc {M : zMem} {t : Nat} {T : yT} (h : yCT M t T) : M.1 t 14 = Int32.ofNat T.nc := h.2.2.1
theorem yCT.nh {M : zMem} {t : Nat} {T : yT} (h : yCT M t T) : M.1 t 15 = Int32.ofNat T.nh := h.2.2.2.1
theorem yCT.nw {M : zMem} {t : Nat} {T : yT} (h : yCT M t T) : M.1 t 16 = Int32.ofNat T.nw := h.2.2.2.2.1
theorem yCT.rain {M : zMem} {t : Nat} {T : yT} (h : yCT M t T) : M.1 t 17 = T.rain := h.2.2.2.2.2.1
theorem yCT.most {M : zMem} {t : Nat} {T : yT} (h : yCT M t T) : M.1 t 18 = T.most := h.2.2.2.2.2.2.1
theorem yCT.knots {M : zMem} {t : Nat} {T : yT} (h : yCT M t T) : M.1 (t + 13) 5 = T.knots := h.2.2.2.2.2.2.2.1
theorem yCT.ground {M : zMem} {t : Nat} {T : yT} (h : yCT M t T) : ∀ c, c < 24 → M.1 (t + 1) c = T.ground c := h.2.2.2.2.2.2.2.2.1
theorem yCT.fname {M : zMem} {t : Nat} {T : yT} (h : yCT M t T) : ∀ f, f < T.nf → M.1 (t + 2) f = T.fname f := h.2.2.2.2.2.2.2.2.2.1
theorem yCT.fcell {M : zMem} {t : Nat} {T : yT} (h : yCT M t T) : ∀ f, f < T.nf → M.1 (t + 3) f = Int32.ofNat (T.fcell f) := h.2.2.2.2.2.2.2.2.2.2.1
theorem yCT.need {M : zMem} {t : Nat} {T : yT} (h : yCT M t T) : ∀ f, f < T.nf → M.1 (t + 4) f = T.need f := h.2.2.2.2.2.2.2.2.2.2.2.1
theorem yCT.cname {M : zMem} {t : Nat} {T : yT} (h : yCT M t T) : ∀ c, c < T.nc → M.1 (t + 5) c = T.cname c := h.2.2.2.2.2.2.2.2.2.2.2.2.1
theorem yCT.ccell {M : zMem} {t : Nat} {T : yT} (h : yCT M t T) : ∀ c, c < T.nc → M.1 (t + 6) c = Int32.ofNat (T.ccell c) := h.2.2.2.2.2.2.2.2.2.2.2.2.2.1
theorem yCT.bsize {M : zMem} {t : Nat} {T : yT} (h : yCT M t T) : ∀ c, c < T.nc → M.1 (t + 7) c = T.bsize c := h.2.2.2.2.2.2.2.2.2.2.2.2.2.2.1
theorem yCT.bat {M : zMem} {t : Nat} {T : yT} (h : yCT M t T) : ∀ c, c < T.nc → M.1 (t + 8) c = T.bat c := h.2.2.2.2.2.2.2.2.2.2.2.2.2.2.2.1
theorem yCT.hname {M : zMem} {t : Nat} {T : yT} (h : yCT M t T) : ∀ c, c < T.nh → M.1 (t + 9) c = T.hname c := h.2.2.2.2.2.2.2.2.2.2.2.2.2.2.2.2.1
theorem yCT.hcell {M : zMem} {t : Nat} {T : yT} (h : yCT M t T) : ∀ c, c < T.nh → M.1 (t + 10) c = Int32.ofNat (T.hcell c) := h.2.2.2.2.2.2.2.2.2.2.2.2.2.2.2.2.2.1
theorem yCT.sight {M : zMem} {t : Nat} {T : yT} (h : yCT M t T) : ∀ c, c < T.nh → M.1 (t + 11) c = T.sight c := h.2.2.2.2.2.2.2.2.2.2.2.2.2.2.2.2.2.2.1
theorem yCT.wind {M : zMem} {t : Nat} {T : yT} (h : yCT M t T) : ∀ c, c < T.nw → M.1 (t + 12) c = T.wind c := h.2.2.2.2.2.2.2.2.2.2.2.2.2.2.2.2.2.2.2.1
theorem yCT.law {M : zMem} {t : Nat} {T : yT} (h : yCT M t T) : ∀ k, k < 3 → ∃ a, a + (T.law k).length ≤ 64 ∧ M.1 (t + 13 + 2) k = Int32.ofNat a ∧ M.1 (t + 13 + 3) k = Int32.ofNat (a + (T.law k).length) ∧ ∀ j, (hj : j < (T.law k).length) → M.1 (t + 13 + 1) (a + j) = yKc ((T.law k)[j]) := h.2.2.2.2.2.2.2.2.2.2.2.2.2.2.2.2.2.2.2.2
/-- the reference's -/
def yRT (M : zMem) (T : yT) : Prop :=
  (M.1 215 0 = Int32.ofNat T.nf) ∧
  (M.1 215 1 = Int32.ofNat T.nc) ∧
  (M.1 215 2 = Int32.ofNat T.nh) ∧
  (M.1 215 3 = Int32.ofNat T.nw) ∧
  (M.1 215 4 = T.rain) ∧
  (M.1 215 5 = T.most) ∧
  (M.1 215 7 = T.knots) ∧
  (∀ c, c < 24 → M.1 216 c = T.ground c) ∧
  (∀ f, f < T.nf → M.1 217 f = T.fname f) ∧
  (∀ f, f < T.nf → M.1 218 f = Int32.ofNat (T.fcell f)) ∧
  (∀ f, f < T.nf → M.1 219 f = T.need f) ∧
  (∀ c, c < T.nc → M.1 220 c = T.cname c) ∧
  (∀ c, c < T.nc → M.1 221 c = Int32.ofNat (T.ccell c)) ∧
  (∀ c, c < T.nc → M.1 222 c = T.bsize c) ∧
  (∀ c, c < T.nc → M.1 223 c = T.bat c) ∧
  (∀ c, c < T.nh → M.1 224 c = T.hname c) ∧
  (∀ c, c < T.nh → M.1 225 c = Int32.ofNat (T.hcell c)) ∧
  (∀ c, c < T.nh → M.1 226 c = T.sight c) ∧
  (∀ c, c < T.nw → M.1 227 c = T.wind c) ∧
  (∀ k, k < 3 → ∃ a, a + (T.law k).length ≤ 64 ∧ M.1 228 k = Int32.ofNat a ∧ M.1 229 k = Int32.ofNat (a + (T.law k).length) ∧ ∀ j, (hj : j < (T.law k).length) → M.1 230 (a + j) = yKs ((T.law k)[j]) ∧ M.1 231 (a + j) = yKv ((T.law k)[j]))
theorem yRT.nf {M : zMem} {T : yT} (h : yRT M T) : M.1 215 0 = Int32.ofNat T.nf := h.1
theorem yRT.nc {M : zMem} {T : yT} (h : yRT M T) : M.1 215 1 = Int32.ofNat T.nc := h.2.1
theorem yRT.nh {M : zMem} {T : yT} (h : yRT M T) : M.1 215 2 = Int32.ofNat T.nh := h.2.2.1
theorem yRT.nw {M : zMem} {T : yT} (h : yRT M T) : M.1 215 3 = Int32.ofNat T.nw := h.2.2.2.1
theorem yRT.rain {M : zMem} {T : yT} (h : yRT M T) : M.1 215 4 = T.rain := h.2.2.2.2.1
theorem yRT.most {M : zMem} {T : yT} (h : yRT M T) : M.1 215 5 = T.most := h.2.2.2.2.2.1
theorem yRT.knots {M : zMem} {T : yT} (h : yRT M T) : M.1 215 7 = T.knots := h.2.2.2.2.2.2.1
theorem yRT.ground {M : zMem} {T : yT} (h : yRT M T) : ∀ c, c < 24 → M.1 216 c = T.ground c := h.2.2.2.2.2.2.2.1
theorem yRT.fname {M : zMem} {T : yT} (h : yRT M T) : ∀ f, f < T.nf → M.1 217 f = T.fname f := h.2.2.2.2.2.2.2.2.1
theorem yRT.fcell {M : zMem} {T : yT} (h : yRT M T) : ∀ f, f < T.nf → M.1 218 f = Int32.ofNat (T.fcell f) := h.2.2.2.2.2.2.2.2.2.1
theorem yRT.need {M : zMem} {T : yT} (h : yRT M T) : ∀ f, f < T.nf → M.1 219 f = T.need f := h.2.2.2.2.2.2.2.2.2.2.1
theorem yRT.cname {M : zMem} {T : yT} (h : yRT M T) : ∀ c, c < T.nc → M.1 220 c = T.cname c := h.2.2.2.2.2.2.2.2.2.2.2.1
theorem yRT.ccell {M : zMem} {T : yT} (h : yRT M T) : ∀ c, c < T.nc → M.1 221 c = Int32.ofNat (T.ccell c) := h.2.2.2.2.2.2.2.2.2.2.2.2.1
theorem yRT.bsize {M : zMem} {T : yT} (h : yRT M T) : ∀ c, c < T.nc → M.1 222 c = T.bsize c := h.2.2.2.2.2.2.2.2.2.2.2.2.2.1
theorem yRT.bat {M : zMem} {T : yT} (h : yRT M T) : ∀ c, c < T.nc → M.1 223 c = T.bat c := h.2.2.2.2.2.2.2.2.2.2.2.2.2.2.1
theorem yRT.hname {M : zMem} {T : yT} (h : yRT M T) : ∀ c, c < T.nh → M.1 224 c = T.hname c := h.2.2.2.2.2.2.2.2.2.2.2.2.2.2.2.1
theorem yRT.hcell {M : zMem} {T : yT} (h : yRT M T) : ∀ c, c < T.nh → M.1 225 c = Int32.ofNat (T.hcell c) := h.2.2.2.2.2.2.2.2.2.2.2.2.2.2.2.2.1
theorem yRT.sight {M : zMem} {T : yT} (h : yRT M T) : ∀ c, c < T.nh → M.1 226 c = T.sight c := h.2.2.2.2.2.2.2.2.2.2.2.2.2.2.2.2.2.1
theorem yRT.wind {M : zMem} {T : yT} (h : yRT M T) : ∀ c, c < T.nw → M.1 227 c = T.wind c := h.2.2.2.2.2.2.2.2.2.2.2.2.2.2.2.2.2.2.1
theorem yRT.law {M : zMem} {T : yT} (h : yRT M T) : ∀ k, k < 3 → ∃ a, a + (T.law k).length ≤ 64 ∧ M.1 228 k = Int32.ofNat a ∧ M.1 229 k = Int32.ofNat (a + (T.law k).length) ∧ ∀ j, (hj : j < (T.law k).length) → M.1 230 (a + j) = yKs ((T.law k)[j]) ∧ M.1 231 (a + j) = yKv ((T.law k)[j]) := h.2.2.2.2.2.2.2.2.2.2.2.2.2.2.2.2.2.2.2
def yA : Type := (Nat) × (Int32) × (Nat → Nat) × (Nat → Int32) × (Nat → Int32) × (Nat → Int32) × (Nat → Int32) × (Nat → Nat) × (Nat → Int32) × (Nat → Int32) × (Nat → Nat → Int32)
def yA.mk (hour : Nat) (blown : Int32) (cell : Nat → Nat) (size : Nat → Int32) (age : Nat → Int32) (owner : Nat → Int32) (state : Nat → Int32) (pos : Nat → Nat) (marks : Nat → Int32) (got : Nat → Int32) (rained : Nat → Nat → Int32) : yA := (hour, blown, cell, size, age, owner, state, pos, marks, got, rained)
def yA.hour (S : yA) : Nat := S.1
def yA.blown (S : yA) : Int32 := S.2.1
def yA.cell (S : yA) : Nat → Nat := S.2.2.1
def yA.size (S : yA) : Nat → Int32 := S.2.2.2.1
def yA.age (S : yA) : Nat → Int32 := S.2.2.2.2.1
def yA.owner (S : yA) : Nat → Int32 := S.2.2.2.2.2.1
def yA.state (S : yA) : Nat → Int32 := S.2.2.2.2.2.2.1
def yA.pos (S : yA) : Nat → Nat := S.2.2.2.2.2.2.2.1
def yA.marks (S : yA) : Nat → Int32 := S.2.2.2.2.2.2.2.2.1
def yA.got (S : yA) : Nat → Int32 := S.2.2.2.2.2.2.2.2.2.1
def yA.rained (S : yA) : Nat → Nat → Int32 := S.2.2.2.2.2.2.2.2.2.2
def yA.w_hour (S : yA) (v : Nat) : yA := (v, S.2.1, S.2.2.1, S.2.2.2.1, S.2.2.2.2.1, S.2.2.2.2.2.1, S.2.2.2.2.2.2.1, S.2.2.2.2.2.2.2.1, S.2.2.2.2.2.2.2.2.1, S.2.2.2.2.2.2.2.2.2.1, S.2.2.2.2.2.2.2.2.2.2)
def yA.w_blown (S : yA) (v : Int32) : yA := (S.1, v, S.2.2.1, S.2.2.2.1, S.2.2.2.2.1, S.2.2.2.2.2.1, S.2.2.2.2.2.2.1, S.2.2.2.2.2.2.2.1, S.2.2.2.2.2.2.2.2.1, S.2.2.2.2.2.2.2.2.2.1, S.2.2.2.2.2.2.2.2.2.2)
def yA.w_cell (S : yA) (v : Nat → Nat) : yA := (S.1, S.2.1, v, S.2.2.2.1, S.2.2.2.2.1, S.2.2.2.2.2.1, S.2.2.2.2.2.2.1, S.2.2.2.2.2.2.2.1, S.2.2.2.2.2.2.2.2.1, S.2.2.2.2.2.2.2.2.2.1, S.2.2.2.2.2.2.2.2.2.2)
def yA.w_size (S : yA) (v : Nat → Int32) : yA := (S.1, S.2.1, S.2.2.1, v, S.2.2.2.2.1, S.2.2.2.2.2.1, S.2.2.2.2.2.2.1, S.2.2.2.2.2.2.2.1, S.2.2.2.2.2.2.2.2.1, S.2.2.2.2.2.2.2.2.2.1, S.2.2.2.2.2.2.2.2.2.2)
def yA.w_age (S : yA) (v : Nat → Int32) : yA := (S.1, S.2.1, S.2.2.1, S.2.2.2.1, v, S.2.2.2.2.2.1, S.2.2.2.2.2.2.1, S.2.2.2.2.2.2.2.1, S.2.2.2.2.2.2.2.2.1, S.2.2.2.2.2.2.2.2.2.1, S.2.2.2.2.2.2.2.2.2.2)
def yA.w_owner (S : yA) (v : Nat → Int32) : yA := (S.1, S.2.1, S.2.2.1, S.2.2.2.1, S.2.2.2.2.1, v, S.2.2.2.2.2.2.1, S.2.2.2.2.2.2.2.1, S.2.2.2.2.2.2.2.2.1, S.2.2.2.2.2.2.2.2.2.1, S.2.2.2.2.2.2.2.2.2.2)
def yA.w_state (S : yA) (v : Nat → Int32) : yA := (S.1, S.2.1, S.2.2.1, S.2.2.2.1, S.2.2.2.2.1, S.2.2.2.2.2.1, v, S.2.2.2.2.2.2.2.1, S.2.2.2.2.2.2.2.2.1, S.2.2.2.2.2.2.2.2.2.1, S.2.2.2.2.2.2.2.2.2.2)
def yA.w_pos (S : yA) (v : Nat → Nat) : yA := (S.1, S.2.1, S.2.2.1, S.2.2.2.1, S.2.2.2.2.1, S.2.2.2.2.2.1, S.2.2.2.2.2.2.1, v, S.2.2.2.2.2.2.2.2.1, S.2.2.2.2.2.2.2.2.2.1, S.2.2.2.2.2.2.2.2.2.2)
def yA.w_marks (S : yA) (v : Nat → Int32) : yA := (S.1, S.2.1, S.2.2.1, S.2.2.2.1, S.2.2.2.2.1, S.2.2.2.2.2.1, S.2.2.2.2.2.2.1, S.2.2.2.2.2.2.2.1, v, S.2.2.2.2.2.2.2.2.2.1, S.2.2.2.2.2.2.2.2.2.2)
def yA.w_got (S : yA) (v : Nat → Int32) : yA := (S.1, S.2.1, S.2.2.1, S.2.2.2.1, S.2.2.2.2.1, S.2.2.2.2.2.1, S.2.2.2.2.2.2.1, S.2.2.2.2.2.2.2.1, S.2.2.2.2.2.2.2.2.1, v, S.2.2.2.2.2.2.2.2.2.2)
def yA.w_rained (S : yA) (v : Nat → Nat → Int32) : yA := (S.1, S.2.1, S.2.2.1, S.2.2.2.1, S.2.2.2.2.1, S.2.2.2.2.2.1, S.2.2.2.2.2.2.1, S.2.2.2.2.2.2.2.1, S.2.2.2.2.2.2.2.2.1, S.2.2.2.2.2.2.2.2.2.1, v)
theorem ya_hour_hour {S : yA} {v : Nat} : (yA.w_hour S v).hour = v := rfl
theorem ya_hour_blown {S : yA} {v : Nat} : (yA.w_hour S v).blown = S.blown := rfl
theorem ya_hour_cell {S : yA} {v : Nat} : (yA.w_hour S v).cell = S.cell := rfl
theorem ya_hour_size {S : yA} {v : Nat} : (yA.w_hour S v).size = S.size := rfl
theorem ya_hour_age {S : yA} {v : Nat} : (yA.w_hour S v).age = S.age := rfl
theorem ya_hour_owner {S : yA} {v : Nat} : (yA.w_hour S v).owner = S.owner := rfl
theorem ya_hour_state {S : yA} {v : Nat} : (yA.w_hour S v).state = S.state := rfl
theorem ya_hour_pos {S : yA} {v : Nat} : (yA.w_hour S v).pos = S.pos := rfl
theorem ya_hour_marks {S : yA} {v : Nat} : (yA.w_hour S v).marks = S.marks := rfl
theorem ya_hour_got {S : yA} {v : Nat} : (yA.w_hour S v).got = S.got := rfl
theorem ya_hour_rained {S : yA} {v : Nat} : (yA.w_hour S v).rained = S.rained := rfl
theorem ya_blown_hour {S : yA} {v : Int32} : (yA.w_blown S v).hour = S.hour := rfl
theorem ya_blown_blown {S : yA} {v : Int32} : (yA.w_blown S v).blown = v := rfl
theorem ya_blown_cell {S : yA} {v : Int32} : (yA.w_blown S v).cell = S.cell := rfl
theorem ya_blown_size {S : yA} {v : Int32} : (yA.w_blown S v).size = S.size := rfl
theorem ya_blown_age {S : yA} {v : Int32} : (yA.w_blown S v).age = S.age := rfl
theorem ya_blown_owner {S : yA} {v : Int32} : (yA.w_blown S v).owner = S.owner := rfl
theorem ya_blown_state {S : yA} {v : Int32} : (yA.w_blown S v).state = S.state := rfl
theorem ya_blown_pos {S : yA} {v : Int32} : (yA.w_blown S v).pos = S.pos := rfl
theorem ya_blown_marks {S : yA} {v : Int32} : (yA.w_blown S v).marks = S.marks := rfl
theorem ya_blown_got {S : yA} {v : Int32} : (yA.w_blown S v).got = S.got := rfl
theorem ya_blown_rained {S : yA} {v : Int32} : (yA.w_blown S v).rained = S.rained := rfl
theorem ya_cell_hour {S : yA} {v : Nat → Nat} : (yA.w_cell S v).hour = S.hour := rfl
theorem ya_cell_blown {S : yA} {v : Nat → Nat} : (yA.w_cell S v).blown = S.blown := rfl
theorem ya_cell_cell {S : yA} {v : Nat → Nat} : (yA.w_cell S v).cell = v := rfl
theorem ya_cell_size {S : yA} {v : Nat → Nat} : (yA.w_cell S v).size = S.size := rfl
theorem ya_cell_age {S : yA} {v : Nat → Nat} : (yA.w_cell S v).age = S.age := rfl
theorem ya_cell_owner {S : yA} {v : Nat → Nat} : (yA.w_cell S v).owner = S.owner := rfl
theorem ya_cell_state {S : yA} {v : Nat → Nat} : (yA.w_cell S v).state = S.state := rfl
theorem ya_cell_pos {S : yA} {v : Nat → Nat} : (yA.w_cell S v).pos = S.pos := rfl
theorem ya_cell_marks {S : yA} {v : Nat → Nat} : (yA.w_cell S v).marks = S.marks := rfl
theorem ya_cell_got {S : yA} {v : Nat → Nat} : (yA.w_cell S v).got = S.got := rfl
theorem ya_cell_rained {S : yA} {v : Nat → Nat} : (yA.w_cell S v).rained = S.rained := rfl
theorem ya_size_hour {S : yA} {v : Nat → Int32} : (yA.w_size S v).hour = S.hour := rfl
theorem ya_size_blown {S : yA} {v : Nat → Int32} : (yA.w_size S v).blown = S.blown := rfl
theorem ya_size_cell {S : yA} {v : Nat → Int32} : (yA.w_size S v).cell = S.cell := rfl
theorem ya_size_size {S : yA} {v : Nat → Int32} : (yA.w_size S v).size = v := rfl
theorem ya_size_age {S : yA} {v : Nat → Int32} : (yA.w_size S v).age = S.age := rfl
theorem ya_size_owner {S : yA} {v : Nat → Int32} : (yA.w_size S v).owner = S.owner := rfl
theorem ya_size_state {S : yA} {v : Nat → Int32} : (yA.w_size S v).state = S.state := rfl
theorem ya_size_pos {S : yA} {v : Nat → Int32} : (yA.w_size S v).pos = S.pos := rfl
theorem ya_size_marks {S : yA} {v : Nat → Int32} : (yA.w_size S v).marks = S.marks := rfl
theorem ya_size_got {S : yA} {v : Nat → Int32} : (yA.w_size S v).got = S.got := rfl
theorem ya_size_rained {S : yA} {v : Nat → Int32} : (yA.w_size S v).rained = S.rained := rfl
theorem ya_age_hour {S : yA} {v : Nat → Int32} : (yA.w_age S v).hour = S.hour := rfl
theorem ya_age_blown {S : yA} {v : Nat → Int32} : (yA.w_age S v).blown = S.blown := rfl
theorem ya_age_cell {S : yA} {v : Nat → Int32} : (yA.w_age S v).cell = S.cell := rfl
theorem ya_age_size {S : yA} {v : Nat → Int32} : (yA.w_age S v).size = S.size := rfl
theorem ya_age_age {S : yA} {v : Nat → Int32} : (yA.w_age S v).age = v := rfl
theorem ya_age_owner {S : yA} {v : Nat → Int32} : (yA.w_age S v).owner = S.owner := rfl
theorem ya_age_state {S : yA} {v : Nat → Int32} : (yA.w_age S v).state = S.state := rfl
theorem ya_age_pos {S : yA} {v : Nat → Int32} : (yA.w_age S v).pos = S.pos := rfl
theorem ya_age_marks {S : yA} {v : Nat → Int32} : (yA.w_age S v).marks = S.marks := rfl
theorem ya_age_got {S : yA} {v : Nat → Int32} : (yA.w_age S v).got = S.got := rfl
theorem ya_age_rained {S : yA} {v : Nat → Int32} : (yA.w_age S v).rained = S.rained := rfl
theorem ya_owner_hour {S : yA} {v : Nat → Int32} : (yA.w_owner S v).hour = S.hour := rfl
theorem ya_owner_blown {S : yA} {v : Nat → Int32} : (yA.w_owner S v).blown = S.blown := rfl
theorem ya_owner_cell {S : yA} {v : Nat → Int32} : (yA.w_owner S v).cell = S.cell := rfl
theorem ya_owner_size {S : yA} {v : Nat → Int32} : (yA.w_owner S v).size = S.size := rfl
theorem ya_owner_age {S : yA} {v : Nat → Int32} : (yA.w_owner S v).age = S.age := rfl
theorem ya_owner_owner {S : yA} {v : Nat → Int32} : (yA.w_owner S v).owner = v := rfl
theorem ya_owner_state {S : yA} {v : Nat → Int32} : (yA.w_owner S v).state = S.state := rfl
theorem ya_owner_pos {S : yA} {v : Nat → Int32} : (yA.w_owner S v).pos = S.pos := rfl
theorem ya_owner_marks {S : yA} {v : Nat → Int32} : (yA.w_owner S v).marks = S.marks := rfl
theorem ya_owner_got {S : yA} {v : Nat → Int32} : (yA.w_owner S v).got = S.got := rfl
theorem ya_owner_rained {S : yA} {v : Nat → Int32} : (yA.w_owner S v).rained = S.rained := rfl
theorem ya_state_hour {S : yA} {v : Nat → Int32} : (yA.w_state S v).hour = S.hour := rfl
theorem ya_state_blown {S : yA} {v : Nat → Int32} : (yA.w_state S v).blown = S.blown := rfl
theorem ya_state_cell {S : yA} {v : Nat → Int32} : (yA.w_state S v).cell = S.cell := rfl
theorem ya_state_size {S : yA} {v : Nat → Int32} : (yA.w_state S v).size = S.size := rfl
theorem ya_state_age {S : yA} {v : Nat → Int32} : (yA.w_state S v).age = S.age := rfl
theorem ya_state_owner {S : yA} {v : Nat → Int32} : (yA.w_state S v).owner = S.owner := rfl
theorem ya_state_state {S : yA} {v : Nat → Int32} : (yA.w_state S v).state = v := rfl
theorem ya_state_pos {S : yA} {v : Nat → Int32} : (yA.w_state S v).pos = S.pos := rfl
theorem ya_state_marks {S : yA} {v : Nat → Int32} : (yA.w_state S v).marks = S.marks := rfl
theorem ya_state_got {S : yA} {v : Nat → Int32} : (yA.w_state S v).got = S.got := rfl
theorem ya_state_rained {S : yA} {v : Nat → Int32} : (yA.w_state S v).rained = S.rained := rfl
theorem ya_pos_hour {S : yA} {v : Nat → Nat} : (yA.w_pos S v).hour = S.hour := rfl
theorem ya_pos_blown {S : yA} {v : Nat → Nat} : (yA.w_pos S v).blown = S.blown := rfl
theorem ya_pos_cell {S : yA} {v : Nat → Nat} : (yA.w_pos S v).cell = S.cell := rfl
theorem ya_pos_size {S : yA} {v : Nat → Nat} : (yA.w_pos S v).size = S.size := rfl
theorem ya_pos_age {S : yA} {v : Nat → Nat} : (yA.w_pos S v).age = S.age := rfl
theorem ya_pos_owner {S : yA} {v : Nat → Nat} : (yA.w_pos S v).owner = S.owner := rfl
theorem ya_pos_state {S : yA} {v : Nat → Nat} : (yA.w_pos S v).state = S.state := rfl
theorem ya_pos_pos {S : yA} {v : Nat → Nat} : (yA.w_pos S v).pos = v := rfl
theorem ya_pos_marks {S : yA} {v : Nat → Nat} : (yA.w_pos S v).marks = S.marks := rfl
theorem ya_pos_got {S : yA} {v : Nat → Nat} : (yA.w_pos S v).got = S.got := rfl
theorem ya_pos_rained {S : yA} {v : Nat → Nat} : (yA.w_pos S v).rained = S.rained := rfl
theorem ya_marks_hour {S : yA} {v : Nat → Int32} : (yA.w_marks S v).hour = S.hour := rfl
theorem ya_marks_blown {S : yA} {v : Nat → Int32} : (yA.w_marks S v).blown = S.blown := rfl
theorem ya_marks_cell {S : yA} {v : Nat → Int32} : (yA.w_marks S v).cell = S.cell := rfl
theorem ya_marks_size {S : yA} {v : Nat → Int32} : (yA.w_marks S v).size = S.size := rfl
theorem ya_marks_age {S : yA} {v : Nat → Int32} : (yA.w_marks S v).age = S.age := rfl
theorem ya_marks_owner {S : yA} {v : Nat → Int32} : (yA.w_marks S v).owner = S.owner := rfl
theorem ya_marks_state {S : yA} {v : Nat → Int32} : (yA.w_marks S v).state = S.state := rfl
theorem ya_marks_pos {S : yA} {v : Nat → Int32} : (yA.w_marks S v).pos = S.pos := rfl
theorem ya_marks_marks {S : yA} {v : Nat → Int32} : (yA.w_marks S v).marks = v := rfl
theorem ya_marks_got {S : yA} {v : Nat → Int32} : (yA.w_marks S v).got = S.got := rfl
theorem ya_marks_rained {S : yA} {v : Nat → Int32} : (yA.w_marks S v).rained = S.rained := rfl
theorem ya_got_hour {S : yA} {v : Nat → Int32} : (yA.w_got S v).hour = S.hour := rfl
theorem ya_got_blown {S : yA} {v : Nat → Int32} : (yA.w_got S v).blown = S.blown := rfl
theorem ya_got_cell {S : yA} {v : Nat → Int32} : (yA.w_got S v).cell = S.cell := rfl
theorem ya_got_size {S : yA} {v : Nat → Int32} : (yA.w_got S v).size = S.size := rfl
theorem ya_got_age {S : yA} {v : Nat → Int32} : (yA.w_got S v).age = S.age := rfl
theorem ya_got_owner {S : yA} {v : Nat → Int32} : (yA.w_got S v).owner = S.owner := rfl
theorem ya_got_state {S : yA} {v : Nat → Int32} : (yA.w_got S v).state = S.state := rfl
theorem ya_got_pos {S : yA} {v : Nat → Int32} : (yA.w_got S v).pos = S.pos := rfl
theorem ya_got_marks {S : yA} {v : Nat → Int32} : (yA.w_got S v).marks = S.marks := rfl
theorem ya_got_got {S : yA} {v : Nat → Int32} : (yA.w_got S v).got = v := rfl
theorem ya_got_rained {S : yA} {v : Nat → Int32} : (yA.w_got S v).rained = S.rained := rfl
theorem ya_rained_hour {S : yA} {v : Nat → Nat → Int32} : (yA.w_rained S v).hour = S.hour := rfl
theorem ya_rained_blown {S : yA} {v : Nat → Nat → Int32} : (yA.w_rained S v).blown = S.blown := rfl
theorem ya_rained_cell {S : yA} {v : Nat → Nat → Int32} : (yA.w_rained S v).cell = S.cell := rfl
theorem ya_rained_size {S : yA} {v : Nat → Nat → Int32} : (yA.w_rained S v).size = S.size := rfl
theorem ya_rained_age {S : yA} {v : Nat → Nat → Int32} : (yA.w_rained S v).age = S.age := rfl
theorem ya_rained_owner {S : yA} {v : Nat → Nat → Int32} : (yA.w_rained S v).owner = S.owner := rfl
theorem ya_rained_state {S : yA} {v : Nat → Nat → Int32} : (yA.w_rained S v).state = S.state := rfl
theorem ya_rained_pos {S : yA} {v : Nat → Nat → Int32} : (yA.w_rained S v).pos = S.pos := rfl
theorem ya_rained_marks {S : yA} {v : Nat → Nat → Int32} : (yA.w_rained S v).marks = S.marks := rfl
theorem ya_rained_got {S : yA} {v : Nat → Nat → Int32} : (yA.w_rained S v).got = S.got := rfl
theorem ya_rained_rained {S : yA} {v : Nat → Nat → Int32} : (yA.w_rained S v).rained = v := rfl
def yOK (T : yT) (S : yA) : Prop :=
  (∀ c, c < T.nc → S.cell c < 24) ∧
  (∀ c, c < T.nc → S.owner c = -1 ∨ ∃ h, h < T.nh ∧ S.owner c = Int32.ofNat h) ∧
  (∀ h, h < T.nh → S.pos h < 24)
theorem yOK.cell {T : yT} {S : yA} (h : yOK T S) : ∀ c, c < T.nc → S.cell c < 24 := h.1
theorem yOK.owner {T : yT} {S : yA} (h : yOK T S) : ∀ c, c < T.nc → S.owner c = -1 ∨ ∃ h, h < T.nh ∧ S.owner c = Int32.ofNat h := h.2.1
theorem yOK.pos {T : yT} {S : yA} (h : yOK T S) : ∀ h, h < T.nh → S.pos h < 24 := h.2.2
def ySP (s : Nat) : Prop := s ∈ [42, 61, 99, 118, 137, 156, 175, 194]
theorem ysp_is {s : Nat} (h : ySP s) : zIS s := zis_of s h
theorem ysp_lo {s : Nat} (h : ySP s) : 42 ≤ s ∧ s + 19 ≤ 213 := by
  simp only [ySP, List.mem_cons, List.not_mem_nil, or_false] at h
  omega
theorem ysp_8 {s : Nat} (h : ySP s) {j : Nat} (h1 : 1 ≤ j) (h2 : j < 7) : (zds (s + j)).2 = 8 := by
  have := (ysp_is h).2.1 (j - 1) (by omega)
  rw [show s + j = s + (1 + (j - 1)) by omega, this.2]
theorem ysp_6 {s : Nat} (h : ySP s) {j : Nat} (h1 : 7 ≤ j) (h2 : j < 10) : (zds (s + j)).2 = 6 := by
  have := (ysp_is h).2.2.1 (j - 7) (by omega)
  rw [show s + j = s + (7 + (j - 7)) by omega, this.2]
theorem ysp_g {s : Nat} (h : ySP s) : (zds (s + 10)).2 = 5 := by rw [(ysp_is h).2.2.2.1.2]
theorem ysp_r {s : Nat} (h : ySP s) {j : Nat} (h2 : j < 6) : (zds (s + 11 + 1 + j)).2 = 5 := by rw [((ysp_is h).2.2.2.2.2.1 j h2).2]
theorem ysp_n {s : Nat} (h : ySP s) : (zds (s + 18)).2 = 7 := by rw [(ysp_is h).2.2.2.2.2.2.2]
/-- the class's sky at s, what it is told at t, tried otherwise as o -/
def yCS (M : zMem) (s t : Nat) (o : Int32) (T : yT) (S : yA) : Prop :=
  (ySP s) ∧
  (yTok T) ∧
  (ztof (M.1 s 14) = t) ∧
  (M.1 s 13 = o) ∧
  (yCT M t T) ∧
  (yOK T S) ∧
  (M.1 s 11 = Int32.ofNat S.hour) ∧
  (M.1 s 12 = S.blown) ∧
  (∀ c, c < T.nc → M.1 (s + 1) c = Int32.ofNat (S.cell c % 6)) ∧
  (∀ c, c < T.nc → M.1 (s + 2) c = Int32.ofNat (S.cell c / 6)) ∧
  (∀ c, c < T.nc → M.1 (s + 3) c = S.size c) ∧
  (∀ c, c < T.nc → M.1 (s + 4) c = S.age c) ∧
  (∀ c, c < T.nc → M.1 (s + 5) c = S.owner c) ∧
  (∀ c, c < T.nc → M.1 (s + 6) c = S.state c) ∧
  (∀ h, h < T.nh → M.1 (s + 7) h = Int32.ofNat (S.pos h % 6)) ∧
  (∀ h, h < T.nh → M.1 (s + 8) h = Int32.ofNat (S.pos h / 6)) ∧
  (∀ h, h < T.nh → M.1 (s + 9) h = S.marks h) ∧
  (∀ f, f < T.nf → M.1 (s + 10) f = S.got f) ∧
  (∀ h f, h < T.nh → f < T.nf → M.1 (s + 11 + 1 + h) f = S.rained h f)
theorem yCS.sp {M : zMem} {s t : Nat} {o : Int32} {T : yT} {S : yA} (h : yCS M s t o T S) : ySP s := h.1
theorem yCS.tk {M : zMem} {s t : Nat} {o : Int32} {T : yT} {S : yA} (h : yCS M s t o T S) : yTok T := h.2.1
theorem yCS.tp {M : zMem} {s t : Nat} {o : Int32} {T : yT} {S : yA} (h : yCS M s t o T S) : ztof (M.1 s 14) = t := h.2.2.1
theorem yCS.ot {M : zMem} {s t : Nat} {o : Int32} {T : yT} {S : yA} (h : yCS M s t o T S) : M.1 s 13 = o := h.2.2.2.1
theorem yCS.ct {M : zMem} {s t : Nat} {o : Int32} {T : yT} {S : yA} (h : yCS M s t o T S) : yCT M t T := h.2.2.2.2.1
theorem yCS.ok {M : zMem} {s t : Nat} {o : Int32} {T : yT} {S : yA} (h : yCS M s t o T S) : yOK T S := h.2.2.2.2.2.1
theorem yCS.hour {M : zMem} {s t : Nat} {o : Int32} {T : yT} {S : yA} (h : yCS M s t o T S) : M.1 s 11 = Int32.ofNat S.hour := h.2.2.2.2.2.2.1
theorem yCS.blown {M : zMem} {s t : Nat} {o : Int32} {T : yT} {S : yA} (h : yCS M s t o T S) : M.1 s 12 = S.blown := h.2.2.2.2.2.2.2.1
theorem yCS.x {M : zMem} {s t : Nat} {o : Int32} {T : yT} {S : yA} (h : yCS M s t o T S) : ∀ c, c < T.nc → M.1 (s + 1) c = Int32.ofNat (S.cell c % 6) := h.2.2.2.2.2.2.2.2.1
theorem yCS.y {M : zMem} {s t : Nat} {o : Int32} {T : yT} {S : yA} (h : yCS M s t o T S) : ∀ c, c < T.nc → M.1 (s + 2) c = Int32.ofNat (S.cell c / 6) := h.2.2.2.2.2.2.2.2.2.1
theorem yCS.size {M : zMem} {s t : Nat} {o : Int32} {T : yT} {S : yA} (h : yCS M s t o T S) : ∀ c, c < T.nc → M.1 (s + 3) c = S.size c := h.2.2.2.2.2.2.2.2.2.2.1
theorem yCS.age {M : zMem} {s t : Nat} {o : Int32} {T : yT} {S : yA} (h : yCS M s t o T S) : ∀ c, c < T.nc → M.1 (s + 4) c = S.age c := h.2.2.2.2.2.2.2.2.2.2.2.1
theorem yCS.owner {M : zMem} {s t : Nat} {o : Int32} {T : yT} {S : yA} (h : yCS M s t o T S) : ∀ c, c < T.nc → M.1 (s + 5) c = S.owner c := h.2.2.2.2.2.2.2.2.2.2.2.2.1
theorem yCS.state {M : zMem} {s t : Nat} {o : Int32} {T : yT} {S : yA} (h : yCS M s t o T S) : ∀ c, c < T.nc → M.1 (s + 6) c = S.state c := h.2.2.2.2.2.2.2.2.2.2.2.2.2.1
theorem yCS.hx {M : zMem} {s t : Nat} {o : Int32} {T : yT} {S : yA} (h : yCS M s t o T S) : ∀ h, h < T.nh → M.1 (s + 7) h = Int32.ofNat (S.pos h % 6) := h.2.2.2.2.2.2.2.2.2.2.2.2.2.2.1
theorem yCS.hy {M : zMem} {s t : Nat} {o : Int32} {T : yT} {S : yA} (h : yCS M s t o T S) : ∀ h, h < T.nh → M.1 (s + 8) h = Int32.ofNat (S.pos h / 6) := h.2.2.2.2.2.2.2.2.2.2.2.2.2.2.2.1
theorem yCS.marks {M : zMem} {s t : Nat} {o : Int32} {T : yT} {S : yA} (h : yCS M s t o T S) : ∀ h, h < T.nh → M.1 (s + 9) h = S.marks h := h.2.2.2.2.2.2.2.2.2.2.2.2.2.2.2.2.1
theorem yCS.got {M : zMem} {s t : Nat} {o : Int32} {T : yT} {S : yA} (h : yCS M s t o T S) : ∀ f, f < T.nf → M.1 (s + 10) f = S.got f := h.2.2.2.2.2.2.2.2.2.2.2.2.2.2.2.2.2.1
theorem yCS.rained {M : zMem} {s t : Nat} {o : Int32} {T : yT} {S : yA} (h : yCS M s t o T S) : ∀ h f, h < T.nh → f < T.nf → M.1 (s + 11 + 1 + h) f = S.rained h f := h.2.2.2.2.2.2.2.2.2.2.2.2.2.2.2.2.2.2
/-- what of the class's memory a sky's own doing touches -/
def yTC (s : Nat) (k _i : Nat) : Prop := s ≤ k ∧ k < s + 19
/-- the reference's sky sl: the cloud x is left out where 2 is tried -/
def yRS (M : zMem) (sl : Nat) (o : Int32) (T : yT) (S : yA) : Prop :=
  (sl < 23) ∧
  (yTok T) ∧
  (M.1 213 49 = o) ∧
  (yRT M T) ∧
  (yOK T S) ∧
  (M.1 234 sl = Int32.ofNat S.hour) ∧
  (M.1 235 sl = S.blown) ∧
  (∀ c, c < T.nc → M.1 236 (8 * sl + c) = Int32.ofNat (S.cell c)) ∧
  (∀ c, c < T.nc → M.1 237 (8 * sl + c) = S.size c) ∧
  (∀ c, c < T.nc → M.1 238 (8 * sl + c) = S.age c) ∧
  (∀ c, c < T.nc → M.1 239 (8 * sl + c) = S.owner c) ∧
  (∀ c, c < T.nc → S.state c = if o = 2 ∧ Int32.ofNat c = M.1 213 50 then 4 else M.1 240 (8 * sl + c)) ∧
  (∀ h, h < T.nh → M.1 241 (6 * sl + h) = Int32.ofNat (S.pos h)) ∧
  (∀ h, h < T.nh → M.1 242 (6 * sl + h) = S.marks h) ∧
  (∀ f, f < T.nf → M.1 243 (5 * sl + f) = S.got f) ∧
  (∀ h f, h < T.nh → f < T.nf → M.1 244 (35 * sl + 7 * f + h) = S.rained h f)
theorem yRS.lt {M : zMem} {sl : Nat} {o : Int32} {T : yT} {S : yA} (h : yRS M sl o T S) : sl < 23 := h.1
theorem yRS.tk {M : zMem} {sl : Nat} {o : Int32} {T : yT} {S : yA} (h : yRS M sl o T S) : yTok T := h.2.1
theorem yRS.ot {M : zMem} {sl : Nat} {o : Int32} {T : yT} {S : yA} (h : yRS M sl o T S) : M.1 213 49 = o := h.2.2.1
theorem yRS.rt {M : zMem} {sl : Nat} {o : Int32} {T : yT} {S : yA} (h : yRS M sl o T S) : yRT M T := h.2.2.2.1
theorem yRS.ok {M : zMem} {sl : Nat} {o : Int32} {T : yT} {S : yA} (h : yRS M sl o T S) : yOK T S := h.2.2.2.2.1
theorem yRS.hour {M : zMem} {sl : Nat} {o : Int32} {T : yT} {S : yA} (h : yRS M sl o T S) : M.1 234 sl = Int32.ofNat S.hour := h.2.2.2.2.2.1
theorem yRS.blown {M : zMem} {sl : Nat} {o : Int32} {T : yT} {S : yA} (h : yRS M sl o T S) : M.1 235 sl = S.blown := h.2.2.2.2.2.2.1
theorem yRS.cell {M : zMem} {sl : Nat} {o : Int32} {T : yT} {S : yA} (h : yRS M sl o T S) : ∀ c, c < T.nc → M.1 236 (8 * sl + c) = Int32.ofNat (S.cell c) := h.2.2.2.2.2.2.2.1
theorem yRS.size {M : zMem} {sl : Nat} {o : Int32} {T : yT} {S : yA} (h : yRS M sl o T S) : ∀ c, c < T.nc → M.1 237 (8 * sl + c) = S.size c := h.2.2.2.2.2.2.2.2.1
theorem yRS.age {M : zMem} {sl : Nat} {o : Int32} {T : yT} {S : yA} (h : yRS M sl o T S) : ∀ c, c < T.nc → M.1 238 (8 * sl + c) = S.age c := h.2.2.2.2.2.2.2.2.2.1
theorem yRS.owner {M : zMem} {sl : Nat} {o : Int32} {T : yT} {S : yA} (h : yRS M sl o T S) : ∀ c, c < T.nc → M.1 239 (8 * sl + c) = S.owner c := h.2.2.2.2.2.2.2.2.2.2.1
theorem yRS.state {M : zMem} {sl : Nat} {o : Int32} {T : yT} {S : yA} (h : yRS M sl o T S) : ∀ c, c < T.nc → S.state c = if o = 2 ∧ Int32.ofNat c = M.1 213 50 then 4 else M.1 240 (8 * sl + c) := h.2.2.2.2.2.2.2.2.2.2.2.1
theorem yRS.pos {M : zMem} {sl : Nat} {o : Int32} {T : yT} {S : yA} (h : yRS M sl o T S) : ∀ h, h < T.nh → M.1 241 (6 * sl + h) = Int32.ofNat (S.pos h) := h.2.2.2.2.2.2.2.2.2.2.2.2.1
theorem yRS.marks {M : zMem} {sl : Nat} {o : Int32} {T : yT} {S : yA} (h : yRS M sl o T S) : ∀ h, h < T.nh → M.1 242 (6 * sl + h) = S.marks h := h.2.2.2.2.2.2.2.2.2.2.2.2.2.1
theorem yRS.got {M : zMem} {sl : Nat} {o : Int32} {T : yT} {S : yA} (h : yRS M sl o T S) : ∀ f, f < T.nf → M.1 243 (5 * sl + f) = S.got f := h.2.2.2.2.2.2.2.2.2.2.2.2.2.2.1
theorem yRS.rained {M : zMem} {sl : Nat} {o : Int32} {T : yT} {S : yA} (h : yRS M sl o T S) : ∀ h f, h < T.nh → f < T.nf → M.1 244 (35 * sl + 7 * f + h) = S.rained h f := h.2.2.2.2.2.2.2.2.2.2.2.2.2.2.2
def yTR (sl : Nat) (k i : Nat) : Prop := (k = 213 ∧ i = 35) ∨ ((k = 234 ∨ k = 235) ∧ i = sl) ∨ (236 ≤ k ∧ k ≤ 240 ∧ 8 * sl ≤ i ∧ i < 8 * sl + 8) ∨ ((k = 241 ∨ k = 242) ∧ 6 * sl ≤ i ∧ i < 6 * sl + 6) ∨ (k = 243 ∧ 5 * sl ≤ i ∧ i < 5 * sl + 5) ∨ (k = 244 ∧ 35 * sl ≤ i ∧ i < 35 * sl + 35)
theorem yct_fr {P : Nat → Nat → Prop} {M M' : zMem} {t : Nat} {T : yT} (h : yCT M t T) (f : zfr P M M') (hp : ∀ k i, k < 42 → ¬ P k i) : yCT M' t T := by
  have lo : t + 17 < 42 := by rcases h.tt with e | e <;> omega
  refine ⟨h.tt, (f _ _ (hp _ _ (by omega))).trans h.nf, (f _ _ (hp _ _ (by omega))).trans h.nc, (f _ _ (hp _ _ (by omega))).trans h.nh, (f _ _ (hp _ _ (by omega))).trans h.nw, (f _ _ (hp _ _ (by omega))).trans h.rain, (f _ _ (hp _ _ (by omega))).trans h.most, (f _ _ (hp _ _ (by omega))).trans h.knots, fun c hc => (f _ _ (hp _ _ (by omega))).trans (h.ground c hc), fun c hc => (f _ _ (hp _ _ (by omega))).trans (h.fname c hc), fun c hc => (f _ _ (hp _ _ (by omega))).trans (h.fcell c hc), fun c hc => (f _ _ (hp _ _ (by omega))).trans (h.need c hc), fun c hc => (f _ _ (hp _ _ (by omega))).trans (h.cname c hc), fun c hc => (f _ _ (hp _ _ (by omega))).trans (h.ccell c hc), fun c hc => (f _ _ (hp _ _ (by omega))).trans (h.bsize c hc), fun c hc => (f _ _ (hp _ _ (by omega))).trans (h.bat c hc), fun c hc => (f _ _ (hp _ _ (by omega))).trans (h.hname c hc), fun c hc => (f _ _ (hp _ _ (by omega))).trans (h.hcell c hc), fun c hc => (f _ _ (hp _ _ (by omega))).trans (h.sight c hc), fun c hc => (f _ _ (hp _ _ (by omega))).trans (h.wind c hc), ?_⟩
  intro k hk
  obtain ⟨a, h1, h2, h3, h4⟩ := h.law k hk
  refine ⟨a, h1, (f _ _ (hp _ _ (by omega))).trans h2, (f _ _ (hp _ _ (by omega))).trans h3, fun j hj => ?_⟩
  exact (f _ _ (hp _ _ (by omega))).trans (h4 j hj)
theorem yrt_fr {P : Nat → Nat → Prop} {M M' : zMem} {T : yT} (h : yRT M T) (f : zfr P M M') (hp : ∀ k i, 215 ≤ k → k < 232 → ¬ P k i) : yRT M' T := by
  refine ⟨(f _ _ (hp _ _ (by omega) (by omega))).trans h.nf, (f _ _ (hp _ _ (by omega) (by omega))).trans h.nc, (f _ _ (hp _ _ (by omega) (by omega))).trans h.nh, (f _ _ (hp _ _ (by omega) (by omega))).trans h.nw, (f _ _ (hp _ _ (by omega) (by omega))).trans h.rain, (f _ _ (hp _ _ (by omega) (by omega))).trans h.most, (f _ _ (hp _ _ (by omega) (by omega))).trans h.knots, fun c hc => (f _ _ (hp _ _ (by omega) (by omega))).trans (h.ground c hc), fun c hc => (f _ _ (hp _ _ (by omega) (by omega))).trans (h.fname c hc), fun c hc => (f _ _ (hp _ _ (by omega) (by omega))).trans (h.fcell c hc), fun c hc => (f _ _ (hp _ _ (by omega) (by omega))).trans (h.need c hc), fun c hc => (f _ _ (hp _ _ (by omega) (by omega))).trans (h.cname c hc), fun c hc => (f _ _ (hp _ _ (by omega) (by omega))).trans (h.ccell c hc), fun c hc => (f _ _ (hp _ _ (by omega) (by omega))).trans (h.bsize c hc), fun c hc => (f _ _ (hp _ _ (by omega) (by omega))).trans (h.bat c hc), fun c hc => (f _ _ (hp _ _ (by omega) (by omega))).trans (h.hname c hc), fun c hc => (f _ _ (hp _ _ (by omega) (by omega))).trans (h.hcell c hc), fun c hc => (f _ _ (hp _ _ (by omega) (by omega))).trans (h.sight c hc), fun c hc => (f _ _ (hp _ _ (by omega) (by omega))).trans (h.wind c hc), ?_⟩
  intro k hk
  obtain ⟨a, h1, h2, h3, h4⟩ := h.law k hk
  refine ⟨a, h1, (f _ _ (hp _ _ (by omega) (by omega))).trans h2, (f _ _ (hp _ _ (by omega) (by omega))).trans h3, fun j hj => ?_⟩
  exact ⟨(f _ _ (hp _ _ (by omega) (by omega))).trans (h4 j hj).1, (f _ _ (hp _ _ (by omega) (by omega))).trans (h4 j hj).2⟩
theorem ytc_lo {s : Nat} (h : ySP s) : ∀ k i, k < 42 → ¬ yTC s k i := by
  intro k i hk e
  have := ysp_lo h
  have := e.1
  omega
theorem ytr_lo {sl : Nat} : ∀ k i, 215 ≤ k → k < 232 → ¬ yTR sl k i := by
  intro k i h1 h2 e
  unfold yTR at e
  omega
def yu {γ : Type} (f : Nat → γ) (k : Nat) (x : γ) : Nat → γ := fun j => if j = k then x else f j
theorem yu_on {γ : Type} {f : Nat → γ} {k : Nat} {x : γ} : yu f k x k = x := if_pos rfl
theorem yu_off {γ : Type} {f : Nat → γ} {k j : Nat} {x : γ} (h : j ≠ k) : yu f k x j = f j := if_neg h
theorem yCS.setSize {M : zMem} {s t : Nat} {o : Int32} {T : yT} {S : yA} (h : yCS M s t o T S) (i : Nat) (v : Int32) : yCS (mup M (s + 3) i v) s t o T (yA.w_size S (yu S.size i v)) := by
  have lo := ysp_lo h.sp
  have fr : zfr (yTC s) M (mup M (s + 3) i v) := zfr_mup ⟨by omega, by omega⟩
  refine ⟨h.sp, h.tk, ?_, ?_, yct_fr h.ct fr (ytc_lo h.sp), ⟨h.ok.cell, h.ok.owner, h.ok.pos⟩, ?_, ?_, ?_, ?_, ?_, ?_, ?_, ?_, ?_, ?_, ?_, ?_, ?_⟩
  · show ztof ((mup M (s + 3) i v).1 s 14) = t
    rw [show (mup M (s + 3) i v).1 s 14 = M.1 s 14 by simp only [mup_at, mupL_1]; simp]; exact h.tp
  · show (mup M (s + 3) i v).1 s 13 = o
    rw [show (mup M (s + 3) i v).1 s 13 = M.1 s 13 by simp only [mup_at, mupL_1]; simp]; exact h.ot
  · show (mup M (s + 3) i v).1 s 11 = Int32.ofNat S.hour
    rw [show (mup M (s + 3) i v).1 s 11 = M.1 s 11 by simp only [mup_at, mupL_1]; simp]; exact h.hour
  · show (mup M (s + 3) i v).1 s 12 = S.blown
    rw [show (mup M (s + 3) i v).1 s 12 = M.1 s 12 by simp only [mup_at, mupL_1]; simp]; exact h.blown
  · intro q hq
    rw [show (mup M (s + 3) i v).1 (s + 1) q = M.1 (s + 1) q by simp only [mup_at, mupL_1]; simp]; exact h.x q hq
  · intro q hq
    rw [show (mup M (s + 3) i v).1 (s + 2) q = M.1 (s + 2) q by simp only [mup_at, mupL_1]; simp]; exact h.y q hq
  · intro q hq; show _ = yu S.size i v q; rw [mup_row, yu, h.size q hq]
  · intro q hq
    rw [show (mup M (s + 3) i v).1 (s + 4) q = M.1 (s + 4) q by simp only [mup_at, mupL_1]; simp]; exact h.age q hq
  · intro q hq
    rw [show (mup M (s + 3) i v).1 (s + 5) q = M.1 (s + 5) q by simp only [mup_at, mupL_1]; simp]; exact h.owner q hq
  · intro q hq
    rw [show (mup M (s + 3) i v).1 (s + 6) q = M.1 (s + 6) q by simp only [mup_at, mupL_1]; simp]; exact h.state q hq
  · intro q hq
    rw [show (mup M (s + 3) i v).1 (s + 7) q = M.1 (s + 7) q by simp only [mup_at, mupL_1]; simp]; exact h.hx q hq
  · intro q hq
    rw [show (mup M (s + 3) i v).1 (s + 8) q = M.1 (s + 8) q by simp only [mup_at, mupL_1]; simp]; exact h.hy q hq
  · intro q hq
    rw [show (mup M (s + 3) i v).1 (s + 9) q = M.1 (s + 9) q by simp only [mup_at, mupL_1]; simp]; exact h.marks q hq
  · intro q hq
    rw [show (mup M (s + 3) i v).1 (s + 10) q = M.1 (s + 10) q by simp only [mup_at, mupL_1]; simp]; exact h.got q hq
  · intro q f hq hf
    rw [show (mup M (s + 3) i v).1 (s + 11 + 1 + q) f = M.1 (s + 11 + 1 + q) f by have := h.tk.nh; simp only [mup_at, mupL_1]; repeat rw [if_neg (by omega)]]; exact h.rained q f hq hf
theorem yCS.setAge {M : zMem} {s t : Nat} {o : Int32} {T : yT} {S : yA} (h : yCS M s t o T S) (i : Nat) (v : Int32) : yCS (mup M (s + 4) i v) s t o T (yA.w_age S (yu S.age i v)) := by
  have lo := ysp_lo h.sp
  have fr : zfr (yTC s) M (mup M (s + 4) i v) := zfr_mup ⟨by omega, by omega⟩
  refine ⟨h.sp, h.tk, ?_, ?_, yct_fr h.ct fr (ytc_lo h.sp), ⟨h.ok.cell, h.ok.owner, h.ok.pos⟩, ?_, ?_, ?_, ?_, ?_, ?_, ?_, ?_, ?_, ?_, ?_, ?_, ?_⟩
  · show ztof ((mup M (s + 4) i v).1 s 14) = t
    rw [show (mup M (s + 4) i v).1 s 14 = M.1 s 14 by simp only [mup_at, mupL_1]; simp]; exact h.tp
  · show (mup M (s + 4) i v).1 s 13 = o
    rw [show (mup M (s + 4) i v).1 s 13 = M.1 s 13 by simp only [mup_at, mupL_1]; simp]; exact h.ot
  · show (mup M (s + 4) i v).1 s 11 = Int32.ofNat S.hour
    rw [show (mup M (s + 4) i v).1 s 11 = M.1 s 11 by simp only [mup_at, mupL_1]; simp]; exact h.hour
  · show (mup M (s + 4) i v).1 s 12 = S.blown
    rw [show (mup M (s + 4) i v).1 s 12 = M.1 s 12 by simp only [mup_at, mupL_1]; simp]; exact h.blown
  · intro q hq
    rw [show (mup M (s + 4) i v).1 (s + 1) q = M.1 (s + 1) q by simp only [mup_at, mupL_1]; simp]; exact h.x q hq
  · intro q hq
    rw [show (mup M (s + 4) i v).1 (s + 2) q = M.1 (s + 2) q by simp only [mup_at, mupL_1]; simp]; exact h.y q hq
  · intro q hq
    rw [show (mup M (s + 4) i v).1 (s + 3) q = M.1 (s + 3) q by simp only [mup_at, mupL_1]; simp]; exact h.size q hq
  · intro q hq; show _ = yu S.age i v q; rw [mup_row, yu, h.age q hq]
  · intro q hq
    rw [show (mup M (s + 4) i v).1 (s + 5) q = M.1 (s + 5) q by simp only [mup_at, mupL_1]; simp]; exact h.owner q hq
  · intro q hq
    rw [show (mup M (s + 4) i v).1 (s + 6) q = M.1 (s + 6) q by simp only [mup_at, mupL_1]; simp]; exact h.state q hq
  · intro q hq
    rw [show (mup M (s + 4) i v).1 (s + 7) q = M.1 (s + 7) q by simp only [mup_at, mupL_1]; simp]; exact h.hx q hq
  · intro q hq
    rw [show (mup M (s + 4) i v).1 (s + 8) q = M.1 (s + 8) q by simp only [mup_at, mupL_1]; simp]; exact h.hy q hq
  · intro q hq
    rw [show (mup M (s + 4) i v).1 (s + 9) q = M.1 (s + 9) q by simp only [mup_at, mupL_1]; simp]; exact h.marks q hq
  · intro q hq
    rw [show (mup M (s + 4) i v).1 (s + 10) q = M.1 (s + 10) q by simp only [mup_at, mupL_1]; simp]; exact h.got q hq
  · intro q f hq hf
    rw [show (mup M (s + 4) i v).1 (s + 11 + 1 + q) f = M.1 (s + 11 + 1 + q) f by have := h.tk.nh; simp only [mup_at, mupL_1]; repeat rw [if_neg (by omega)]]; exact h.rained q f hq hf
theorem yCS.setState {M : zMem} {s t : Nat} {o : Int32} {T : yT} {S : yA} (h : yCS M s t o T S) (i : Nat) (v : Int32) : yCS (mup M (s + 6) i v) s t o T (yA.w_state S (yu S.state i v)) := by
  have lo := ysp_lo h.sp
  have fr : zfr (yTC s) M (mup M (s + 6) i v) := zfr_mup ⟨by omega, by omega⟩
  refine ⟨h.sp, h.tk, ?_, ?_, yct_fr h.ct fr (ytc_lo h.sp), ⟨h.ok.cell, h.ok.owner, h.ok.pos⟩, ?_, ?_, ?_, ?_, ?_, ?_, ?_, ?_, ?_, ?_, ?_, ?_, ?_⟩
  · show ztof ((mup M (s + 6) i v).1 s 14) = t
    rw [show (mup M (s + 6) i v).1 s 14 = M.1 s 14 by simp only [mup_at, mupL_1]; simp]; exact h.tp
  · show (mup M (s + 6) i v).1 s 13 = o
    rw [show (mup M (s + 6) i v).1 s 13 = M.1 s 13 by simp only [mup_at, mupL_1]; simp]; exact h.ot
  · show (mup M (s + 6) i v).1 s 11 = Int32.ofNat S.hour
    rw [show (mup M (s + 6) i v).1 s 11 = M.1 s 11 by simp only [mup_at, mupL_1]; simp]; exact h.hour
  · show (mup M (s + 6) i v).1 s 12 = S.blown
    rw [show (mup M (s + 6) i v).1 s 12 = M.1 s 12 by simp only [mup_at, mupL_1]; simp]; exact h.blown
  · intro q hq
    rw [show (mup M (s + 6) i v).1 (s + 1) q = M.1 (s + 1) q by simp only [mup_at, mupL_1]; simp]; exact h.x q hq
  · intro q hq
    rw [show (mup M (s + 6) i v).1 (s + 2) q = M.1 (s + 2) q by simp only [mup_at, mupL_1]; simp]; exact h.y q hq
  · intro q hq
    rw [show (mup M (s + 6) i v).1 (s + 3) q = M.1 (s + 3) q by simp only [mup_at, mupL_1]; simp]; exact h.size q hq
  · intro q hq
    rw [show (mup M (s + 6) i v).1 (s + 4) q = M.1 (s + 4) q by simp only [mup_at, mupL_1]; simp]; exact h.age q hq
  · intro q hq
    rw [show (mup M (s + 6) i v).1 (s + 5) q = M.1 (s + 5) q by simp only [mup_at, mupL_1]; simp]; exact h.owner q hq
  · intro q hq; show _ = yu S.state i v q; rw [mup_row, yu, h.state q hq]
  · intro q hq
    rw [show (mup M (s + 6) i v).1 (s + 7) q = M.1 (s + 7) q by simp only [mup_at, mupL_1]; simp]; exact h.hx q hq
  · intro q hq
    rw [show (mup M (s + 6) i v).1 (s + 8) q = M.1 (s + 8) q by simp only [mup_at, mupL_1]; simp]; exact h.hy q hq
  · intro q hq
    rw [show (mup M (s + 6) i v).1 (s + 9) q = M.1 (s + 9) q by simp only [mup_at, mupL_1]; simp]; exact h.marks q hq
  · intro q hq
    rw [show (mup M (s + 6) i v).1 (s + 10) q = M.1 (s + 10) q by simp only [mup_at, mupL_1]; simp]; exact h.got q hq
  · intro q f hq hf
    rw [show (mup M (s + 6) i v).1 (s + 11 + 1 + q) f = M.1 (s + 11 + 1 + q) f by have := h.tk.nh; simp only [mup_at, mupL_1]; repeat rw [if_neg (by omega)]]; exact h.rained q f hq hf
theorem yCS.setMarks {M : zMem} {s t : Nat} {o : Int32} {T : yT} {S : yA} (h : yCS M s t o T S) (i : Nat) (v : Int32) : yCS (mup M (s + 9) i v) s t o T (yA.w_marks S (yu S.marks i v)) := by
  have lo := ysp_lo h.sp
  have fr : zfr (yTC s) M (mup M (s + 9) i v) := zfr_mup ⟨by omega, by omega⟩
  refine ⟨h.sp, h.tk, ?_, ?_, yct_fr h.ct fr (ytc_lo h.sp), ⟨h.ok.cell, h.ok.owner, h.ok.pos⟩, ?_, ?_, ?_, ?_, ?_, ?_, ?_, ?_, ?_, ?_, ?_, ?_, ?_⟩
  · show ztof ((mup M (s + 9) i v).1 s 14) = t
    rw [show (mup M (s + 9) i v).1 s 14 = M.1 s 14 by simp only [mup_at, mupL_1]; simp]; exact h.tp
  · show (mup M (s + 9) i v).1 s 13 = o
    rw [show (mup M (s + 9) i v).1 s 13 = M.1 s 13 by simp only [mup_at, mupL_1]; simp]; exact h.ot
  · show (mup M (s + 9) i v).1 s 11 = Int32.ofNat S.hour
    rw [show (mup M (s + 9) i v).1 s 11 = M.1 s 11 by simp only [mup_at, mupL_1]; simp]; exact h.hour
  · show (mup M (s + 9) i v).1 s 12 = S.blown
    rw [show (mup M (s + 9) i v).1 s 12 = M.1 s 12 by simp only [mup_at, mupL_1]; simp]; exact h.blown
  · intro q hq
    rw [show (mup M (s + 9) i v).1 (s + 1) q = M.1 (s + 1) q by simp only [mup_at, mupL_1]; simp]; exact h.x q hq
  · intro q hq
    rw [show (mup M (s + 9) i v).1 (s + 2) q = M.1 (s + 2) q by simp only [mup_at, mupL_1]; simp]; exact h.y q hq
  · intro q hq
    rw [show (mup M (s + 9) i v).1 (s + 3) q = M.1 (s + 3) q by simp only [mup_at, mupL_1]; simp]; exact h.size q hq
  · intro q hq
    rw [show (mup M (s + 9) i v).1 (s + 4) q = M.1 (s + 4) q by simp only [mup_at, mupL_1]; simp]; exact h.age q hq
  · intro q hq
    rw [show (mup M (s + 9) i v).1 (s + 5) q = M.1 (s + 5) q by simp only [mup_at, mupL_1]; simp]; exact h.owner q hq
  · intro q hq
    rw [show (mup M (s + 9) i v).1 (s + 6) q = M.1 (s + 6) q by simp only [mup_at, mupL_1]; simp]; exact h.state q hq
  · intro q hq
    rw [show (mup M (s + 9) i v).1 (s + 7) q = M.1 (s + 7) q by simp only [mup_at, mupL_1]; simp]; exact h.hx q hq
  · intro q hq
    rw [show (mup M (s + 9) i v).1 (s + 8) q = M.1 (s + 8) q by simp only [mup_at, mupL_1]; simp]; exact h.hy q hq
  · intro q hq; show _ = yu S.marks i v q; rw [mup_row, yu, h.marks q hq]
  · intro q hq
    rw [show (mup M (s + 9) i v).1 (s + 10) q = M.1 (s + 10) q by simp only [mup_at, mupL_1]; simp]; exact h.got q hq
  · intro q f hq hf
    rw [show (mup M (s + 9) i v).1 (s + 11 + 1 + q) f = M.1 (s + 11 + 1 + q) f by have := h.tk.nh; simp only [mup_at, mupL_1]; repeat rw [if_neg (by omega)]]; exact h.rained q f hq hf
theorem yCS.setGot {M : zMem} {s t : Nat} {o : Int32} {T : yT} {S : yA} (h : yCS M s t o T S) (i : Nat) (v : Int32) : yCS (mup M (s + 10) i v) s t o T (yA.w_got S (yu S.got i v)) := by
  have lo := ysp_lo h.sp
  have fr : zfr (yTC s) M (mup M (s + 10) i v) := zfr_mup ⟨by omega, by omega⟩
  refine ⟨h.sp, h.tk, ?_, ?_, yct_fr h.ct fr (ytc_lo h.sp), ⟨h.ok.cell, h.ok.owner, h.ok.pos⟩, ?_, ?_, ?_, ?_, ?_, ?_, ?_, ?_, ?_, ?_, ?_, ?_, ?_⟩
  · show ztof ((mup M (s + 10) i v).1 s 14) = t
    rw [show (mup M (s + 10) i v).1 s 14 = M.1 s 14 by simp only [mup_at, mupL_1]; simp]; exact h.tp
  · show (mup M (s + 10) i v).1 s 13 = o
    rw [show (mup M (s + 10) i v).1 s 13 = M.1 s 13 by simp only [mup_at, mupL_1]; simp]; exact h.ot
  · show (mup M (s + 10) i v).1 s 11 = Int32.ofNat S.hour
    rw [show (mup M (s + 10) i v).1 s 11 = M.1 s 11 by simp only [mup_at, mupL_1]; simp]; exact h.hour
  · show (mup M (s + 10) i v).1 s 12 = S.blown
    rw [show (mup M (s + 10) i v).1 s 12 = M.1 s 12 by simp only [mup_at, mupL_1]; simp]; exact h.blown
  · intro q hq
    rw [show (mup M (s + 10) i v).1 (s + 1) q = M.1 (s + 1) q by simp only [mup_at, mupL_1]; simp]; exact h.x q hq
  · intro q hq
    rw [show (mup M (s + 10) i v).1 (s + 2) q = M.1 (s + 2) q by simp only [mup_at, mupL_1]; simp]; exact h.y q hq
  · intro q hq
    rw [show (mup M (s + 10) i v).1 (s + 3) q = M.1 (s + 3) q by simp only [mup_at, mupL_1]; simp]; exact h.size q hq
  · intro q hq
    rw [show (mup M (s + 10) i v).1 (s + 4) q = M.1 (s + 4) q by simp only [mup_at, mupL_1]; simp]; exact h.age q hq
  · intro q hq
    rw [show (mup M (s + 10) i v).1 (s + 5) q = M.1 (s + 5) q by simp only [mup_at, mupL_1]; simp]; exact h.owner q hq
  · intro q hq
    rw [show (mup M (s + 10) i v).1 (s + 6) q = M.1 (s + 6) q by simp only [mup_at, mupL_1]; simp]; exact h.state q hq
  · intro q hq
    rw [show (mup M (s + 10) i v).1 (s + 7) q = M.1 (s + 7) q by simp only [mup_at, mupL_1]; simp]; exact h.hx q hq
  · intro q hq
    rw [show (mup M (s + 10) i v).1 (s + 8) q = M.1 (s + 8) q by simp only [mup_at, mupL_1]; simp]; exact h.hy q hq
  · intro q hq
    rw [show (mup M (s + 10) i v).1 (s + 9) q = M.1 (s + 9) q by simp only [mup_at, mupL_1]; simp]; exact h.marks q hq
  · intro q hq; show _ = yu S.got i v q; rw [mup_row, yu, h.got q hq]
  · intro q f hq hf
    rw [show (mup M (s + 10) i v).1 (s + 11 + 1 + q) f = M.1 (s + 11 + 1 + q) f by have := h.tk.nh; simp only [mup_at, mupL_1]; repeat rw [if_neg (by omega)]]; exact h.rained q f hq hf
theorem yCS.setOwner {M : zMem} {s t : Nat} {o : Int32} {T : yT} {S : yA} (h : yCS M s t o T S) (i : Nat) (v : Int32) (hv : v = -1 ∨ ∃ h, h < T.nh ∧ v = Int32.ofNat h) : yCS (mup M (s + 5) i v) s t o T (yA.w_owner S (yu S.owner i v)) := by
  have lo := ysp_lo h.sp
  have fr : zfr (yTC s) M (mup M (s + 5) i v) := zfr_mup ⟨by omega, by omega⟩
  refine ⟨h.sp, h.tk, ?_, ?_, yct_fr h.ct fr (ytc_lo h.sp), ⟨h.ok.cell, fun c hc => by show yu S.owner i v c = -1 ∨ ∃ h, h < T.nh ∧ yu S.owner i v c = Int32.ofNat h; unfold yu; split; exact hv; exact h.ok.owner c hc, h.ok.pos⟩, ?_, ?_, ?_, ?_, ?_, ?_, ?_, ?_, ?_, ?_, ?_, ?_, ?_⟩
  · show ztof ((mup M (s + 5) i v).1 s 14) = t
    rw [show (mup M (s + 5) i v).1 s 14 = M.1 s 14 by simp only [mup_at, mupL_1]; simp]; exact h.tp
  · show (mup M (s + 5) i v).1 s 13 = o
    rw [show (mup M (s + 5) i v).1 s 13 = M.1 s 13 by simp only [mup_at, mupL_1]; simp]; exact h.ot
  · show (mup M (s + 5) i v).1 s 11 = Int32.ofNat S.hour
    rw [show (mup M (s + 5) i v).1 s 11 = M.1 s 11 by simp only [mup_at, mupL_1]; simp]; exact h.hour
  · show (mup M (s + 5) i v).1 s 12 = S.blown
    rw [show (mup M (s + 5) i v).1 s 12 = M.1 s 12 by simp only [mup_at, mupL_1]; simp]; exact h.blown
  · intro q hq
    rw [show (mup M (s + 5) i v).1 (s + 1) q = M.1 (s + 1) q by simp only [mup_at, mupL_1]; simp]; exact h.x q hq
  · intro q hq
    rw [show (mup M (s + 5) i v).1 (s + 2) q = M.1 (s + 2) q by simp only [mup_at, mupL_1]; simp]; exact h.y q hq
  · intro q hq
    rw [show (mup M (s + 5) i v).1 (s + 3) q = M.1 (s + 3) q by simp only [mup_at, mupL_1]; simp]; exact h.size q hq
  · intro q hq
    rw [show (mup M (s + 5) i v).1 (s + 4) q = M.1 (s + 4) q by simp only [mup_at, mupL_1]; simp]; exact h.age q hq
  · intro q hq; show _ = yu S.owner i v q; rw [mup_row, yu, h.owner q hq]
  · intro q hq
    rw [show (mup M (s + 5) i v).1 (s + 6) q = M.1 (s + 6) q by simp only [mup_at, mupL_1]; simp]; exact h.state q hq
  · intro q hq
    rw [show (mup M (s + 5) i v).1 (s + 7) q = M.1 (s + 7) q by simp only [mup_at, mupL_1]; simp]; exact h.hx q hq
  · intro q hq
    rw [show (mup M (s + 5) i v).1 (s + 8) q = M.1 (s + 8) q by simp only [mup_at, mupL_1]; simp]; exact h.hy q hq
  · intro q hq
    rw [show (mup M (s + 5) i v).1 (s + 9) q = M.1 (s + 9) q by simp only [mup_at, mupL_1]; simp]; exact h.marks q hq
  · intro q hq
    rw [show (mup M (s + 5) i v).1 (s + 10) q = M.1 (s + 10) q by simp only [mup_at, mupL_1]; simp]; exact h.got q hq
  · intro q f hq hf
    rw [show (mup M (s + 5) i v).1 (s + 11 + 1 + q) f = M.1 (s + 11 + 1 + q) f by have := h.tk.nh; simp only [mup_at, mupL_1]; repeat rw [if_neg (by omega)]]; exact h.rained q f hq hf
theorem yCS.setHour {M : zMem} {s t : Nat} {o : Int32} {T : yT} {S : yA} (h : yCS M s t o T S) (v : Nat) : yCS (mup M s 11 (Int32.ofNat v)) s t o T (yA.w_hour S (v)) := by
  have lo := ysp_lo h.sp
  have fr : zfr (yTC s) M (mup M s 11 (Int32.ofNat v)) := zfr_mup ⟨by omega, by omega⟩
  refine ⟨h.sp, h.tk, ?_, ?_, yct_fr h.ct fr (ytc_lo h.sp), ⟨h.ok.cell, h.ok.owner, h.ok.pos⟩, ?_, ?_, ?_, ?_, ?_, ?_, ?_, ?_, ?_, ?_, ?_, ?_, ?_⟩
  · show ztof ((mup M s 11 (Int32.ofNat v)).1 s 14) = t
    rw [mup_off' (by decide)]; exact h.tp
  · show (mup M s 11 (Int32.ofNat v)).1 s 13 = o
    rw [show (mup M s 11 (Int32.ofNat v)).1 s 13 = M.1 s 13 by simp only [mup_at, mupL_1]; simp]; exact h.ot
  · exact mup_on
  · show (mup M s 11 (Int32.ofNat v)).1 s 12 = S.blown
    rw [show (mup M s 11 (Int32.ofNat v)).1 s 12 = M.1 s 12 by simp only [mup_at, mupL_1]; simp]; exact h.blown
  · intro q hq
    rw [show (mup M s 11 (Int32.ofNat v)).1 (s + 1) q = M.1 (s + 1) q by simp only [mup_at, mupL_1]; simp]; exact h.x q hq
  · intro q hq
    rw [show (mup M s 11 (Int32.ofNat v)).1 (s + 2) q = M.1 (s + 2) q by simp only [mup_at, mupL_1]; simp]; exact h.y q hq
  · intro q hq
    rw [show (mup M s 11 (Int32.ofNat v)).1 (s + 3) q = M.1 (s + 3) q by simp only [mup_at, mupL_1]; simp]; exact h.size q hq
  · intro q hq
    rw [show (mup M s 11 (Int32.ofNat v)).1 (s + 4) q = M.1 (s + 4) q by simp only [mup_at, mupL_1]; simp]; exact h.age q hq
  · intro q hq
    rw [show (mup M s 11 (Int32.ofNat v)).1 (s + 5) q = M.1 (s + 5) q by simp only [mup_at, mupL_1]; simp]; exact h.owner q hq
  · intro q hq
    rw [show (mup M s 11 (Int32.ofNat v)).1 (s + 6) q = M.1 (s + 6) q by simp only [mup_at, mupL_1]; simp]; exact h.state q hq
  · intro q hq
    rw [show (mup M s 11 (Int32.ofNat v)).1 (s + 7) q = M.1 (s + 7) q by simp only [mup_at, mupL_1]; simp]; exact h.hx q hq
  · intro q hq
    rw [show (mup M s 11 (Int32.ofNat v)).1 (s + 8) q = M.1 (s + 8) q by simp only [mup_at, mupL_1]; simp]; exact h.hy q hq
  · intro q hq
    rw [show (mup M s 11 (Int32.ofNat v)).1 (s + 9) q = M.1 (s + 9) q by simp only [mup_at, mupL_1]; simp]; exact h.marks q hq
  · intro q hq
    rw [show (mup M s 11 (Int32.ofNat v)).1 (s + 10) q = M.1 (s + 10) q by simp only [mup_at, mupL_1]; simp]; exact h.got q hq
  · intro q f hq hf
    rw [show (mup M s 11 (Int32.ofNat v)).1 (s + 11 + 1 + q) f = M.1 (s + 11 + 1 + q) f by have := h.tk.nh; simp only [mup_at, mupL_1]; repeat rw [if_neg (by omega)]]; exact h.rained q f hq hf
theorem yCS.setBlown {M : zMem} {s t : Nat} {o : Int32} {T : yT} {S : yA} (h : yCS M s t o T S) (v : Int32) : yCS (mup M s 12 v) s t o T (yA.w_blown S (v)) := by
  have lo := ysp_lo h.sp
  have fr : zfr (yTC s) M (mup M s 12 v) := zfr_mup ⟨by omega, by omega⟩
  refine ⟨h.sp, h.tk, ?_, ?_, yct_fr h.ct fr (ytc_lo h.sp), ⟨h.ok.cell, h.ok.owner, h.ok.pos⟩, ?_, ?_, ?_, ?_, ?_, ?_, ?_, ?_, ?_, ?_, ?_, ?_, ?_⟩
  · show ztof ((mup M s 12 v).1 s 14) = t
    rw [mup_off' (by decide)]; exact h.tp
  · show (mup M s 12 v).1 s 13 = o
    rw [show (mup M s 12 v).1 s 13 = M.1 s 13 by simp only [mup_at, mupL_1]; simp]; exact h.ot
  · show (mup M s 12 v).1 s 11 = Int32.ofNat S.hour
    rw [show (mup M s 12 v).1 s 11 = M.1 s 11 by simp only [mup_at, mupL_1]; simp]; exact h.hour
  · exact mup_on
  · intro q hq
    rw [show (mup M s 12 v).1 (s + 1) q = M.1 (s + 1) q by simp only [mup_at, mupL_1]; simp]; exact h.x q hq
  · intro q hq
    rw [show (mup M s 12 v).1 (s + 2) q = M.1 (s + 2) q by simp only [mup_at, mupL_1]; simp]; exact h.y q hq
  · intro q hq
    rw [show (mup M s 12 v).1 (s + 3) q = M.1 (s + 3) q by simp only [mup_at, mupL_1]; simp]; exact h.size q hq
  · intro q hq
    rw [show (mup M s 12 v).1 (s + 4) q = M.1 (s + 4) q by simp only [mup_at, mupL_1]; simp]; exact h.age q hq
  · intro q hq
    rw [show (mup M s 12 v).1 (s + 5) q = M.1 (s + 5) q by simp only [mup_at, mupL_1]; simp]; exact h.owner q hq
  · intro q hq
    rw [show (mup M s 12 v).1 (s + 6) q = M.1 (s + 6) q by simp only [mup_at, mupL_1]; simp]; exact h.state q hq
  · intro q hq
    rw [show (mup M s 12 v).1 (s + 7) q = M.1 (s + 7) q by simp only [mup_at, mupL_1]; simp]; exact h.hx q hq
  · intro q hq
    rw [show (mup M s 12 v).1 (s + 8) q = M.1 (s + 8) q by simp only [mup_at, mupL_1]; simp]; exact h.hy q hq
  · intro q hq
    rw [show (mup M s 12 v).1 (s + 9) q = M.1 (s + 9) q by simp only [mup_at, mupL_1]; simp]; exact h.marks q hq
  · intro q hq
    rw [show (mup M s 12 v).1 (s + 10) q = M.1 (s + 10) q by simp only [mup_at, mupL_1]; simp]; exact h.got q hq
  · intro q f hq hf
    rw [show (mup M s 12 v).1 (s + 11 + 1 + q) f = M.1 (s + 11 + 1 + q) f by have := h.tk.nh; simp only [mup_at, mupL_1]; repeat rw [if_neg (by omega)]]; exact h.rained q f hq hf
theorem yCS.setName {M : zMem} {s t : Nat} {o : Int32} {T : yT} {S : yA} (h : yCS M s t o T S) (i : Nat) (v : Int32) : yCS (mup M (s + 18) i v) s t o T S := by
  have lo := ysp_lo h.sp
  have fr : zfr (yTC s) M (mup M (s + 18) i v) := zfr_mup ⟨by omega, by omega⟩
  refine ⟨h.sp, h.tk, ?_, ?_, yct_fr h.ct fr (ytc_lo h.sp), h.ok, ?_, ?_, ?_, ?_, ?_, ?_, ?_, ?_, ?_, ?_, ?_, ?_, ?_⟩
  · show ztof ((mup M (s + 18) i v).1 s 14) = t
    rw [show (mup M (s + 18) i v).1 s 14 = M.1 s 14 by simp only [mup_at, mupL_1]; simp]; exact h.tp
  · show (mup M (s + 18) i v).1 s 13 = o
    rw [show (mup M (s + 18) i v).1 s 13 = M.1 s 13 by simp only [mup_at, mupL_1]; simp]; exact h.ot
  · show (mup M (s + 18) i v).1 s 11 = Int32.ofNat S.hour
    rw [show (mup M (s + 18) i v).1 s 11 = M.1 s 11 by simp only [mup_at, mupL_1]; simp]; exact h.hour
  · show (mup M (s + 18) i v).1 s 12 = S.blown
    rw [show (mup M (s + 18) i v).1 s 12 = M.1 s 12 by simp only [mup_at, mupL_1]; simp]; exact h.blown
  · intro q hq
    rw [show (mup M (s + 18) i v).1 (s + 1) q = M.1 (s + 1) q by simp only [mup_at, mupL_1]; simp]; exact h.x q hq
  · intro q hq
    rw [show (mup M (s + 18) i v).1 (s + 2) q = M.1 (s + 2) q by simp only [mup_at, mupL_1]; simp]; exact h.y q hq
  · intro q hq
    rw [show (mup M (s + 18) i v).1 (s + 3) q = M.1 (s + 3) q by simp only [mup_at, mupL_1]; simp]; exact h.size q hq
  · intro q hq
    rw [show (mup M (s + 18) i v).1 (s + 4) q = M.1 (s + 4) q by simp only [mup_at, mupL_1]; simp]; exact h.age q hq
  · intro q hq
    rw [show (mup M (s + 18) i v).1 (s + 5) q = M.1 (s + 5) q by simp only [mup_at, mupL_1]; simp]; exact h.owner q hq
  · intro q hq
    rw [show (mup M (s + 18) i v).1 (s + 6) q = M.1 (s + 6) q by simp only [mup_at, mupL_1]; simp]; exact h.state q hq
  · intro q hq
    rw [show (mup M (s + 18) i v).1 (s + 7) q = M.1 (s + 7) q by simp only [mup_at, mupL_1]; simp]; exact h.hx q hq
  · intro q hq
    rw [show (mup M (s + 18) i v).1 (s + 8) q = M.1 (s + 8) q by simp only [mup_at, mupL_1]; simp]; exact h.hy q hq
  · intro q hq
    rw [show (mup M (s + 18) i v).1 (s + 9) q = M.1 (s + 9) q by simp only [mup_at, mupL_1]; simp]; exact h.marks q hq
  · intro q hq
    rw [show (mup M (s + 18) i v).1 (s + 10) q = M.1 (s + 10) q by simp only [mup_at, mupL_1]; simp]; exact h.got q hq
  · intro q f hq hf
    rw [show (mup M (s + 18) i v).1 (s + 11 + 1 + q) f = M.1 (s + 11 + 1 + q) f by have := h.tk.nh; simp only [mup_at, mupL_1]; repeat rw [if_neg (by omega)]]; exact h.rained q f hq hf
theorem yCS.setL {M : zMem} {s t : Nat} {o : Int32} {T : yT} {S : yA} (h : yCS M s t o T S) (k i : Nat) (v : Int64) : yCS (mupL M k i v) s t o T S :=
  ⟨h.sp, h.tk, h.tp, h.ot, yct_fr h.ct (zfr_mupL (P := yTC s)) (ytc_lo h.sp), h.ok, h.hour, h.blown, h.x, h.y, h.size, h.age, h.owner, h.state, h.hx, h.hy, h.marks, h.got, h.rained⟩
theorem yCS.setCell {M : zMem} {s t : Nat} {o : Int32} {T : yT} {S : yA} (h : yCS M s t o T S) (i v : Nat) (hv : v < 24) : yCS (mup (mup M (s + 1) i (Int32.ofNat (v % 6))) (s + 2) i (Int32.ofNat (v / 6))) s t o T (yA.w_cell S (yu S.cell i v)) := by
  have lo := ysp_lo h.sp
  have fr : zfr (yTC s) M (mup (mup M (s + 1) i (Int32.ofNat (v % 6))) (s + 2) i (Int32.ofNat (v / 6))) := zfr_trans (zfr_mup ⟨by omega, by omega⟩) (zfr_mup ⟨by omega, by omega⟩)
  refine ⟨h.sp, h.tk, ?_, ?_, yct_fr h.ct fr (ytc_lo h.sp), ⟨fun c hc => by show yu S.cell i v c < 24; unfold yu; split; exact hv; exact h.ok.cell c hc, h.ok.owner, h.ok.pos⟩, ?_, ?_, ?_, ?_, ?_, ?_, ?_, ?_, ?_, ?_, ?_, ?_, ?_⟩
  · show ztof ((mup (mup M (s + 1) i (Int32.ofNat (v % 6))) (s + 2) i (Int32.ofNat (v / 6))).1 s 14) = t
    rw [show (mup (mup M (s + 1) i (Int32.ofNat (v % 6))) (s + 2) i (Int32.ofNat (v / 6))).1 s 14 = M.1 s 14 by simp only [mup_at, mupL_1]; simp]; exact h.tp
  · show (mup (mup M (s + 1) i (Int32.ofNat (v % 6))) (s + 2) i (Int32.ofNat (v / 6))).1 s 13 = o
    rw [show (mup (mup M (s + 1) i (Int32.ofNat (v % 6))) (s + 2) i (Int32.ofNat (v / 6))).1 s 13 = M.1 s 13 by simp only [mup_at, mupL_1]; simp]; exact h.ot
  · show (mup (mup M (s + 1) i (Int32.ofNat (v % 6))) (s + 2) i (Int32.ofNat (v / 6))).1 s 11 = Int32.ofNat S.hour
    rw [show (mup (mup M (s + 1) i (Int32.ofNat (v % 6))) (s + 2) i (Int32.ofNat (v / 6))).1 s 11 = M.1 s 11 by simp only [mup_at, mupL_1]; simp]; exact h.hour
  · show (mup (mup M (s + 1) i (Int32.ofNat (v % 6))) (s + 2) i (Int32.ofNat (v / 6))).1 s 12 = S.blown
    rw [show (mup (mup M (s + 1) i (Int32.ofNat (v % 6))) (s + 2) i (Int32.ofNat (v / 6))).1 s 12 = M.1 s 12 by simp only [mup_at, mupL_1]; simp]; exact h.blown
  · intro q hq; show _ = Int32.ofNat (yu S.cell i v q % 6); rw [mup_off (by omega), mup_row, yu, h.x q hq]; split <;> rfl
  · intro q hq; show _ = Int32.ofNat (yu S.cell i v q / 6); rw [mup_row, yu, mup_off (by omega), h.y q hq]; split <;> rfl
  · intro q hq
    rw [show (mup (mup M (s + 1) i (Int32.ofNat (v % 6))) (s + 2) i (Int32.ofNat (v / 6))).1 (s + 3) q = M.1 (s + 3) q by simp only [mup_at, mupL_1]; simp]; exact h.size q hq
  · intro q hq
    rw [show (mup (mup M (s + 1) i (Int32.ofNat (v % 6))) (s + 2) i (Int32.ofNat (v / 6))).1 (s + 4) q = M.1 (s + 4) q by simp only [mup_at, mupL_1]; simp]; exact h.age q hq
  · intro q hq
    rw [show (mup (mup M (s + 1) i (Int32.ofNat (v % 6))) (s + 2) i (Int32.ofNat (v / 6))).1 (s + 5) q = M.1 (s + 5) q by simp only [mup_at, mupL_1]; simp]; exact h.owner q hq
  · intro q hq
    rw [show (mup (mup M (s + 1) i (Int32.ofNat (v % 6))) (s + 2) i (Int32.ofNat (v / 6))).1 (s + 6) q = M.1 (s + 6) q by simp only [mup_at, mupL_1]; simp]; exact h.state q hq
  · intro q hq
    rw [show (mup (mup M (s + 1) i (Int32.ofNat (v % 6))) (s + 2) i (Int32.ofNat (v / 6))).1 (s + 7) q = M.1 (s + 7) q by simp only [mup_at, mupL_1]; simp]; exact h.hx q hq
  · intro q hq
    rw [show (mup (mup M (s + 1) i (Int32.ofNat (v % 6))) (s + 2) i (Int32.ofNat (v / 6))).1 (s + 8) q = M.1 (s + 8) q by simp only [mup_at, mupL_1]; simp]; exact h.hy q hq
  · intro q hq
    rw [show (mup (mup M (s + 1) i (Int32.ofNat (v % 6))) (s + 2) i (Int32.ofNat (v / 6))).1 (s + 9) q = M.1 (s + 9) q by simp only [mup_at, mupL_1]; simp]; exact h.marks q hq
  · intro q hq
    rw [show (mup (mup M (s + 1) i (Int32.ofNat (v % 6))) (s + 2) i (Int32.ofNat (v / 6))).1 (s + 10) q = M.1 (s + 10) q by simp only [mup_at, mupL_1]; simp]; exact h.got q hq
  · intro q f hq hf
    rw [show (mup (mup M (s + 1) i (Int32.ofNat (v % 6))) (s + 2) i (Int32.ofNat (v / 6))).1 (s + 11 + 1 + q) f = M.1 (s + 11 + 1 + q) f by have := h.tk.nh; simp only [mup_at, mupL_1]; repeat rw [if_neg (by omega)]]; exact h.rained q f hq hf
theorem yCS.setPos {M : zMem} {s t : Nat} {o : Int32} {T : yT} {S : yA} (h : yCS M s t o T S) (i v : Nat) (hv : v < 24) : yCS (mup (mup M (s + 7) i (Int32.ofNat (v % 6))) (s + 8) i (Int32.ofNat (v / 6))) s t o T (yA.w_pos S (yu S.pos i v)) := by
  have lo := ysp_lo h.sp
  have fr : zfr (yTC s) M (mup (mup M (s + 7) i (Int32.ofNat (v % 6))) (s + 8) i (Int32.ofNat (v / 6))) := zfr_trans (zfr_mup ⟨by omega, by omega⟩) (zfr_mup ⟨by omega, by omega⟩)
  refine ⟨h.sp, h.tk, ?_, ?_, yct_fr h.ct fr (ytc_lo h.sp), ⟨h.ok.cell, h.ok.owner, fun c hc => by show yu S.pos i v c < 24; unfold yu; split; exact hv; exact h.ok.pos c hc⟩, ?_, ?_, ?_, ?_, ?_, ?_, ?_, ?_, ?_, ?_, ?_, ?_, ?_⟩
  · show ztof ((mup (mup M (s + 7) i (Int32.ofNat (v % 6))) (s + 8) i (Int32.ofNat (v / 6))).1 s 14) = t
    rw [show (mup (mup M (s + 7) i (Int32.ofNat (v % 6))) (s + 8) i (Int32.ofNat (v / 6))).1 s 14 = M.1 s 14 by simp only [mup_at, mupL_1]; simp]; exact h.tp
  · show (mup (mup M (s + 7) i (Int32.ofNat (v % 6))) (s + 8) i (Int32.ofNat (v / 6))).1 s 13 = o
    rw [show (mup (mup M (s + 7) i (Int32.ofNat (v % 6))) (s + 8) i (Int32.ofNat (v / 6))).1 s 13 = M.1 s 13 by simp only [mup_at, mupL_1]; simp]; exact h.ot
  · show (mup (mup M (s + 7) i (Int32.ofNat (v % 6))) (s + 8) i (Int32.ofNat (v / 6))).1 s 11 = Int32.ofNat S.hour
    rw [show (mup (mup M (s + 7) i (Int32.ofNat (v % 6))) (s + 8) i (Int32.ofNat (v / 6))).1 s 11 = M.1 s 11 by simp only [mup_at, mupL_1]; simp]; exact h.hour
  · show (mup (mup M (s + 7) i (Int32.ofNat (v % 6))) (s + 8) i (Int32.ofNat (v / 6))).1 s 12 = S.blown
    rw [show (mup (mup M (s + 7) i (Int32.ofNat (v % 6))) (s + 8) i (Int32.ofNat (v / 6))).1 s 12 = M.1 s 12 by simp only [mup_at, mupL_1]; simp]; exact h.blown
  · intro q hq
    rw [show (mup (mup M (s + 7) i (Int32.ofNat (v % 6))) (s + 8) i (Int32.ofNat (v / 6))).1 (s + 1) q = M.1 (s + 1) q by simp only [mup_at, mupL_1]; simp]; exact h.x q hq
  · intro q hq
    rw [show (mup (mup M (s + 7) i (Int32.ofNat (v % 6))) (s + 8) i (Int32.ofNat (v / 6))).1 (s + 2) q = M.1 (s + 2) q by simp only [mup_at, mupL_1]; simp]; exact h.y q hq
  · intro q hq
    rw [show (mup (mup M (s + 7) i (Int32.ofNat (v % 6))) (s + 8) i (Int32.ofNat (v / 6))).1 (s + 3) q = M.1 (s + 3) q by simp only [mup_at, mupL_1]; simp]; exact h.size q hq
  · intro q hq
    rw [show (mup (mup M (s + 7) i (Int32.ofNat (v % 6))) (s + 8) i (Int32.ofNat (v / 6))).1 (s + 4) q = M.1 (s + 4) q by simp only [mup_at, mupL_1]; simp]; exact h.age q hq
  · intro q hq
    rw [show (mup (mup M (s + 7) i (Int32.ofNat (v % 6))) (s + 8) i (Int32.ofNat (v / 6))).1 (s + 5) q = M.1 (s + 5) q by simp only [mup_at, mupL_1]; simp]; exact h.owner q hq
  · intro q hq
    rw [show (mup (mup M (s + 7) i (Int32.ofNat (v % 6))) (s + 8) i (Int32.ofNat (v / 6))).1 (s + 6) q = M.1 (s + 6) q by simp only [mup_at, mupL_1]; simp]; exact h.state q hq
  · intro q hq; show _ = Int32.ofNat (yu S.pos i v q % 6); rw [mup_off (by omega), mup_row, yu, h.hx q hq]; split <;> rfl
  · intro q hq; show _ = Int32.ofNat (yu S.pos i v q / 6); rw [mup_row, yu, mup_off (by omega), h.hy q hq]; split <;> rfl
  · intro q hq
    rw [show (mup (mup M (s + 7) i (Int32.ofNat (v % 6))) (s + 8) i (Int32.ofNat (v / 6))).1 (s + 9) q = M.1 (s + 9) q by simp only [mup_at, mupL_1]; simp]; exact h.marks q hq
  · intro q hq
    rw [show (mup (mup M (s + 7) i (Int32.ofNat (v % 6))) (s + 8) i (Int32.ofNat (v / 6))).1 (s + 10) q = M.1 (s + 10) q by simp only [mup_at, mupL_1]; simp]; exact h.got q hq
  · intro q f hq hf
    rw [show (mup (mup M (s + 7) i (Int32.ofNat (v % 6))) (s + 8) i (Int32.ofNat (v / 6))).1 (s + 11 + 1 + q) f = M.1 (s + 11 + 1 + q) f by have := h.tk.nh; simp only [mup_at, mupL_1]; repeat rw [if_neg (by omega)]]; exact h.rained q f hq hf
theorem yCS.setRained {M : zMem} {s t : Nat} {o : Int32} {T : yT} {S : yA} (h : yCS M s t o T S) (i j : Nat) (v : Int32) (hi : i < T.nh) : yCS (mup M (s + 11 + 1 + i) j v) s t o T (yA.w_rained S (yu S.rained i (yu (S.rained i) j v))) := by
  have lo := ysp_lo h.sp
  have nh := h.tk.nh
  have fr : zfr (yTC s) M (mup M (s + 11 + 1 + i) j v) := zfr_mup ⟨by omega, by omega⟩
  refine ⟨h.sp, h.tk, ?_, (mup_off (by omega)).trans h.ot, yct_fr h.ct fr (ytc_lo h.sp), ⟨h.ok.cell, h.ok.owner, h.ok.pos⟩, (mup_off (by omega)).trans h.hour, (mup_off (by omega)).trans h.blown, fun q hq => (mup_off (by omega)).trans (h.x q hq), fun q hq => (mup_off (by omega)).trans (h.y q hq), fun q hq => (mup_off (by omega)).trans (h.size q hq), fun q hq => (mup_off (by omega)).trans (h.age q hq), fun q hq => (mup_off (by omega)).trans (h.owner q hq), fun q hq => (mup_off (by omega)).trans (h.state q hq), fun q hq => (mup_off (by omega)).trans (h.hx q hq), fun q hq => (mup_off (by omega)).trans (h.hy q hq), fun q hq => (mup_off (by omega)).trans (h.marks q hq), fun q hq => (mup_off (by omega)).trans (h.got q hq), ?_⟩
  · rw [mup_off (by omega)]; exact h.tp
  · intro q f hq hf
    show _ = yu S.rained i (yu (S.rained i) j v) q f
    by_cases e : q = i
    · subst e
      rw [mup_row, yu_on, yu, h.rained q f hq hf]
    · rw [mup_off (by omega), yu_off e, h.rained q f hq hf]
theorem yCS.keep {M M' : zMem} {s t : Nat} {o : Int32} {T : yT} {S : yA} {P : Nat → Nat → Prop} (h : yCS M s t o T S) (f : zfr P M M') (hp : ∀ k i, k < 42 ∨ (s ≤ k ∧ k < s + 18) → ¬ P k i) : yCS M' s t o T S := by
  have nh := h.tk.nh
  exact ⟨h.sp, h.tk, by rw [f _ _ (hp _ _ (by omega))]; exact h.tp, (f _ _ (hp _ _ (by omega))).trans h.ot, yct_fr h.ct f (fun k i hk => hp k i (Or.inl hk)), h.ok, (f _ _ (hp _ _ (by omega))).trans h.hour, (f _ _ (hp _ _ (by omega))).trans h.blown, fun q hq => (f _ _ (hp _ _ (by omega))).trans (h.x q hq), fun q hq => (f _ _ (hp _ _ (by omega))).trans (h.y q hq), fun q hq => (f _ _ (hp _ _ (by omega))).trans (h.size q hq), fun q hq => (f _ _ (hp _ _ (by omega))).trans (h.age q hq), fun q hq => (f _ _ (hp _ _ (by omega))).trans (h.owner q hq), fun q hq => (f _ _ (hp _ _ (by omega))).trans (h.state q hq), fun q hq => (f _ _ (hp _ _ (by omega))).trans (h.hx q hq), fun q hq => (f _ _ (hp _ _ (by omega))).trans (h.hy q hq), fun q hq => (f _ _ (hp _ _ (by omega))).trans (h.marks q hq), fun q hq => (f _ _ (hp _ _ (by omega))).trans (h.got q hq), fun q g hq hg => (f _ _ (hp _ _ (by omega))).trans (h.rained q g hq hg)⟩
theorem yRS.setSize {M : zMem} {sl : Nat} {o : Int32} {T : yT} {S : yA} (h : yRS M sl o T S) (i : Nat) (v : Int32) (hi : i < 8) : yRS (mup M 237 (8 * sl + i) v) sl o T (yA.w_size S (yu S.size i v)) := by
  have l1 := h.lt
  have n1 := h.tk.nc
  have n2 := h.tk.nh
  have n3 := h.tk.nf
  have fr : zfr (yTR sl) M (mup M 237 (8 * sl + i) v) := zfr_mup (by unfold yTR; omega)
  exact ⟨h.lt, h.tk, (mup_off (by omega)).trans (h.ot), yrt_fr h.rt fr ytr_lo, ⟨h.ok.cell, h.ok.owner, h.ok.pos⟩, (mup_off (by omega)).trans (h.hour), (mup_off (by omega)).trans (h.blown), fun q hq => (mup_off (by omega)).trans (h.cell q hq), fun q hq => by show _ = yu S.size i v q; rw [mup_row, yu, h.size q hq]; by_cases e : q = i <;> simp [e], fun q hq => (mup_off (by omega)).trans (h.age q hq), fun q hq => (mup_off (by omega)).trans (h.owner q hq), fun q hq => by rw [mup_off (by omega), mup_off (by omega)]; exact h.state q hq, fun q hq => (mup_off (by omega)).trans (h.pos q hq), fun q hq => (mup_off (by omega)).trans (h.marks q hq), fun q hq => (mup_off (by omega)).trans (h.got q hq), fun q f hq hf => (mup_off (by omega)).trans (h.rained q f hq hf)⟩
theorem yRS.setAge {M : zMem} {sl : Nat} {o : Int32} {T : yT} {S : yA} (h : yRS M sl o T S) (i : Nat) (v : Int32) (hi : i < 8) : yRS (mup M 238 (8 * sl + i) v) sl o T (yA.w_age S (yu S.age i v)) := by
  have l1 := h.lt
  have n1 := h.tk.nc
  have n2 := h.tk.nh
  have n3 := h.tk.nf
  have fr : zfr (yTR sl) M (mup M 238 (8 * sl + i) v) := zfr_mup (by unfold yTR; omega)
  exact ⟨h.lt, h.tk, (mup_off (by omega)).trans (h.ot), yrt_fr h.rt fr ytr_lo, ⟨h.ok.cell, h.ok.owner, h.ok.pos⟩, (mup_off (by omega)).trans (h.hour), (mup_off (by omega)).trans (h.blown), fun q hq => (mup_off (by omega)).trans (h.cell q hq), fun q hq => (mup_off (by omega)).trans (h.size q hq), fun q hq => by show _ = yu S.age i v q; rw [mup_row, yu, h.age q hq]; by_cases e : q = i <;> simp [e], fun q hq => (mup_off (by omega)).trans (h.owner q hq), fun q hq => by rw [mup_off (by omega), mup_off (by omega)]; exact h.state q hq, fun q hq => (mup_off (by omega)).trans (h.pos q hq), fun q hq => (mup_off (by omega)).trans (h.marks q hq), fun q hq => (mup_off (by omega)).trans (h.got q hq), fun q f hq hf => (mup_off (by omega)).trans (h.rained q f hq hf)⟩
theorem yRS.setMarks {M : zMem} {sl : Nat} {o : Int32} {T : yT} {S : yA} (h : yRS M sl o T S) (i : Nat) (v : Int32) (hi : i < 6) : yRS (mup M 242 (6 * sl + i) v) sl o T (yA.w_marks S (yu S.marks i v)) := by
  have l1 := h.lt
  have n1 := h.tk.nc
  have n2 := h.tk.nh
  have n3 := h.tk.nf
  have fr : zfr (yTR sl) M (mup M 242 (6 * sl + i) v) := zfr_mup (by unfold yTR; omega)
  exact ⟨h.lt, h.tk, (mup_off (by omega)).trans (h.ot), yrt_fr h.rt fr ytr_lo, ⟨h.ok.cell, h.ok.owner, h.ok.pos⟩, (mup_off (by omega)).trans (h.hour), (mup_off (by omega)).trans (h.blown), fun q hq => (mup_off (by omega)).trans (h.cell q hq), fun q hq => (mup_off (by omega)).trans (h.size q hq), fun q hq => (mup_off (by omega)).trans (h.age q hq), fun q hq => (mup_off (by omega)).trans (h.owner q hq), fun q hq => by rw [mup_off (by omega), mup_off (by omega)]; exact h.state q hq, fun q hq => (mup_off (by omega)).trans (h.pos q hq), fun q hq => by show _ = yu S.marks i v q; rw [mup_row, yu, h.marks q hq]; by_cases e : q = i <;> simp [e], fun q hq => (mup_off (by omega)).trans (h.got q hq), fun q f hq hf => (mup_off (by omega)).trans (h.rained q f hq hf)⟩
theorem yRS.setGot {M : zMem} {sl : Nat} {o : Int32} {T : yT} {S : yA} (h : yRS M sl o T S) (i : Nat) (v : Int32) (hi : i < 5) : yRS (mup M 243 (5 * sl + i) v) sl o T (yA.w_got S (yu S.got i v)) := by
  have l1 := h.lt
  have n1 := h.tk.nc
  have n2 := h.tk.nh
  have n3 := h.tk.nf
  have fr : zfr (yTR sl) M (mup M 243 (5 * sl + i) v) := zfr_mup (by unfold yTR; omega)
  exact ⟨h.lt, h.tk, (mup_off (by omega)).trans (h.ot), yrt_fr h.rt fr ytr_lo, ⟨h.ok.cell, h.ok.owner, h.ok.pos⟩, (mup_off (by omega)).trans (h.hour), (mup_off (by omega)).trans (h.blown), fun q hq => (mup_off (by omega)).trans (h.cell q hq), fun q hq => (mup_off (by omega)).trans (h.size q hq), fun q hq => (mup_off (by omega)).trans (h.age q hq), fun q hq => (mup_off (by omega)).trans (h.owner q hq), fun q hq => by rw [mup_off (by omega), mup_off (by omega)]; exact h.state q hq, fun q hq => (mup_off (by omega)).trans (h.pos q hq), fun q hq => (mup_off (by omega)).trans (h.marks q hq), fun q hq => by show _ = yu S.got i v q; rw [mup_row, yu, h.got q hq]; by_cases e : q = i <;> simp [e], fun q f hq hf => (mup_off (by omega)).trans (h.rained q f hq hf)⟩
theorem yRS.setOwner {M : zMem} {sl : Nat} {o : Int32} {T : yT} {S : yA} (h : yRS M sl o T S) (i : Nat) (v : Int32) (hi : i < 8) (hv : v = -1 ∨ ∃ h, h < T.nh ∧ v = Int32.ofNat h) : yRS (mup M 239 (8 * sl + i) v) sl o T (yA.w_owner S (yu S.owner i v)) := by
  have l1 := h.lt
  have n1 := h.tk.nc
  have n2 := h.tk.nh
  have n3 := h.tk.nf
  have fr : zfr (yTR sl) M (mup M 239 (8 * sl + i) v) := zfr_mup (by unfold yTR; omega)
  exact ⟨h.lt, h.tk, (mup_off (by omega)).trans (h.ot), yrt_fr h.rt fr ytr_lo, ⟨h.ok.cell, fun c hc => by show yu S.owner i v c = -1 ∨ ∃ h, h < T.nh ∧ yu S.owner i v c = Int32.ofNat h; unfold yu; split; exact hv; exact h.ok.owner c hc, h.ok.pos⟩, (mup_off (by omega)).trans (h.hour), (mup_off (by omega)).trans (h.blown), fun q hq => (mup_off (by omega)).trans (h.cell q hq), fun q hq => (mup_off (by omega)).trans (h.size q hq), fun q hq => (mup_off (by omega)).trans (h.age q hq), fun q hq => by show _ = yu S.owner i v q; rw [mup_row, yu, h.owner q hq]; by_cases e : q = i <;> simp [e], fun q hq => by rw [mup_off (by omega), mup_off (by omega)]; exact h.state q hq, fun q hq => (mup_off (by omega)).trans (h.pos q hq), fun q hq => (mup_off (by omega)).trans (h.marks q hq), fun q hq => (mup_off (by omega)).trans (h.got q hq), fun q f hq hf => (mup_off (by omega)).trans (h.rained q f hq hf)⟩
theorem yRS.setHour {M : zMem} {sl : Nat} {o : Int32} {T : yT} {S : yA} (h : yRS M sl o T S) (n : Nat) (v : Int32) (e : v = Int32.ofNat n) : yRS (mup M 234 (sl) v) sl o T (yA.w_hour S (n)) := by
  have l1 := h.lt
  have n1 := h.tk.nc
  have n2 := h.tk.nh
  have n3 := h.tk.nf
  have fr : zfr (yTR sl) M (mup M 234 (sl) v) := zfr_mup (by unfold yTR; omega)
  exact ⟨h.lt, h.tk, (mup_off (by omega)).trans (h.ot), yrt_fr h.rt fr ytr_lo, ⟨h.ok.cell, h.ok.owner, h.ok.pos⟩, mup_on.trans e, (mup_off (by omega)).trans (h.blown), fun q hq => (mup_off (by omega)).trans (h.cell q hq), fun q hq => (mup_off (by omega)).trans (h.size q hq), fun q hq => (mup_off (by omega)).trans (h.age q hq), fun q hq => (mup_off (by omega)).trans (h.owner q hq), fun q hq => by rw [mup_off (by omega), mup_off (by omega)]; exact h.state q hq, fun q hq => (mup_off (by omega)).trans (h.pos q hq), fun q hq => (mup_off (by omega)).trans (h.marks q hq), fun q hq => (mup_off (by omega)).trans (h.got q hq), fun q f hq hf => (mup_off (by omega)).trans (h.rained q f hq hf)⟩
theorem yRS.setBlown {M : zMem} {sl : Nat} {o : Int32} {T : yT} {S : yA} (h : yRS M sl o T S) (v : Int32) : yRS (mup M 235 (sl) v) sl o T (yA.w_blown S (v)) := by
  have l1 := h.lt
  have n1 := h.tk.nc
  have n2 := h.tk.nh
  have n3 := h.tk.nf
  have fr : zfr (yTR sl) M (mup M 235 (sl) v) := zfr_mup (by unfold yTR; omega)
  exact ⟨h.lt, h.tk, (mup_off (by omega)).trans (h.ot), yrt_fr h.rt fr ytr_lo, ⟨h.ok.cell, h.ok.owner, h.ok.pos⟩, (mup_off (by omega)).trans (h.hour), mup_on, fun q hq => (mup_off (by omega)).trans (h.cell q hq), fun q hq => (mup_off (by omega)).trans (h.size q hq), fun q hq => (mup_off (by omega)).trans (h.age q hq), fun q hq => (mup_off (by omega)).trans (h.owner q hq), fun q hq => by rw [mup_off (by omega), mup_off (by omega)]; exact h.state q hq, fun q hq => (mup_off (by omega)).trans (h.pos q hq), fun q hq => (mup_off (by omega)).trans (h.marks q hq), fun q hq => (mup_off (by omega)).trans (h.got q hq), fun q f hq hf => (mup_off (by omega)).trans (h.rained q f hq hf)⟩
theorem yRS.setCell {M : zMem} {sl : Nat} {o : Int32} {T : yT} {S : yA} (h : yRS M sl o T S) (i n : Nat) (hi : i < 8) (v : Int32) (e : v = Int32.ofNat n) (hv : n < 24) : yRS (mup M 236 (8 * sl + i) v) sl o T (yA.w_cell S (yu S.cell i n)) := by
  have l1 := h.lt
  have n1 := h.tk.nc
  have n2 := h.tk.nh
  have n3 := h.tk.nf
  have fr : zfr (yTR sl) M (mup M 236 (8 * sl + i) v) := zfr_mup (by unfold yTR; omega)
  exact ⟨h.lt, h.tk, (mup_off (by omega)).trans (h.ot), yrt_fr h.rt fr ytr_lo, ⟨fun c hc => by show yu S.cell i n c < 24; unfold yu; split; exact hv; exact h.ok.cell c hc, h.ok.owner, h.ok.pos⟩, (mup_off (by omega)).trans (h.hour), (mup_off (by omega)).trans (h.blown), fun q hq => by show _ = Int32.ofNat (yu S.cell i n q); rw [mup_row, yu, h.cell q hq, e]; by_cases e : q = i <;> simp [e], fun q hq => (mup_off (by omega)).trans (h.size q hq), fun q hq => (mup_off (by omega)).trans (h.age q hq), fun q hq => (mup_off (by omega)).trans (h.owner q hq), fun q hq => by rw [mup_off (by omega), mup_off (by omega)]; exact h.state q hq, fun q hq => (mup_off (by omega)).trans (h.pos q hq), fun q hq => (mup_off (by omega)).trans (h.marks q hq), fun q hq => (mup_off (by omega)).trans (h.got q hq), fun q f hq hf => (mup_off (by omega)).trans (h.rained q f hq hf)⟩
theorem yRS.setPos {M : zMem} {sl : Nat} {o : Int32} {T : yT} {S : yA} (h : yRS M sl o T S) (i n : Nat) (hi : i < 6) (v : Int32) (e : v = Int32.ofNat n) (hv : n < 24) : yRS (mup M 241 (6 * sl + i) v) sl o T (yA.w_pos S (yu S.pos i n)) := by
  have l1 := h.lt
  have n1 := h.tk.nc
  have n2 := h.tk.nh
  have n3 := h.tk.nf
  have fr : zfr (yTR sl) M (mup M 241 (6 * sl + i) v) := zfr_mup (by unfold yTR; omega)
  exact ⟨h.lt, h.tk, (mup_off (by omega)).trans (h.ot), yrt_fr h.rt fr ytr_lo, ⟨h.ok.cell, h.ok.owner, fun c hc => by show yu S.pos i n c < 24; unfold yu; split; exact hv; exact h.ok.pos c hc⟩, (mup_off (by omega)).trans (h.hour), (mup_off (by omega)).trans (h.blown), fun q hq => (mup_off (by omega)).trans (h.cell q hq), fun q hq => (mup_off (by omega)).trans (h.size q hq), fun q hq => (mup_off (by omega)).trans (h.age q hq), fun q hq => (mup_off (by omega)).trans (h.owner q hq), fun q hq => by rw [mup_off (by omega), mup_off (by omega)]; exact h.state q hq, fun q hq => by show _ = Int32.ofNat (yu S.pos i n q); rw [mup_row, yu, h.pos q hq, e]; by_cases e : q = i <;> simp [e], fun q hq => (mup_off (by omega)).trans (h.marks q hq), fun q hq => (mup_off (by omega)).trans (h.got q hq), fun q f hq hf => (mup_off (by omega)).trans (h.rained q f hq hf)⟩
theorem yRS.setState {M : zMem} {sl : Nat} {o : Int32} {T : yT} {S : yA} (h : yRS M sl o T S) (i : Nat) (v : Int32) (hi : i < 8) : yRS (mup M 240 (8 * sl + i) v) sl o T (yA.w_state S (yu S.state i (if o = 2 ∧ Int32.ofNat i = M.1 213 50 then 4 else v))) := by
  have l1 := h.lt
  have n1 := h.tk.nc
  have n2 := h.tk.nh
  have n3 := h.tk.nf
  have fr : zfr (yTR sl) M (mup M 240 (8 * sl + i) v) := zfr_mup (by unfold yTR; omega)
  exact ⟨h.lt, h.tk, (mup_off (by omega)).trans (h.ot), yrt_fr h.rt fr ytr_lo, ⟨h.ok.cell, h.ok.owner, h.ok.pos⟩, (mup_off (by omega)).trans (h.hour), (mup_off (by omega)).trans (h.blown), fun q hq => (mup_off (by omega)).trans (h.cell q hq), fun q hq => (mup_off (by omega)).trans (h.size q hq), fun q hq => (mup_off (by omega)).trans (h.age q hq), fun q hq => (mup_off (by omega)).trans (h.owner q hq), fun q hq => by
    show yu S.state i (if o = 2 ∧ Int32.ofNat i = M.1 213 50 then 4 else v) q = _
    rw [mup_off (k' := 213) (by omega), mup_row, yu, h.state q hq]; by_cases e : q = i <;> simp [e], fun q hq => (mup_off (by omega)).trans (h.pos q hq), fun q hq => (mup_off (by omega)).trans (h.marks q hq), fun q hq => (mup_off (by omega)).trans (h.got q hq), fun q f hq hf => (mup_off (by omega)).trans (h.rained q f hq hf)⟩
theorem yRS.setRained {M : zMem} {sl : Nat} {o : Int32} {T : yT} {S : yA} (h : yRS M sl o T S) (i f : Nat) (v : Int32) (hi : i < 7) (hf : f < 5) : yRS (mup M 244 (35 * sl + 7 * f + i) v) sl o T (yA.w_rained S (yu S.rained i (yu (S.rained i) f v))) := by
  have l1 := h.lt
  have n1 := h.tk.nc
  have n2 := h.tk.nh
  have n3 := h.tk.nf
  have fr : zfr (yTR sl) M (mup M 244 (35 * sl + 7 * f + i) v) := zfr_mup (by unfold yTR; omega)
  exact ⟨h.lt, h.tk, (mup_off (by omega)).trans (h.ot), yrt_fr h.rt fr ytr_lo, ⟨h.ok.cell, h.ok.owner, h.ok.pos⟩, (mup_off (by omega)).trans (h.hour), (mup_off (by omega)).trans (h.blown), fun q hq => (mup_off (by omega)).trans (h.cell q hq), fun q hq => (mup_off (by omega)).trans (h.size q hq), fun q hq => (mup_off (by omega)).trans (h.age q hq), fun q hq => (mup_off (by omega)).trans (h.owner q hq), fun q hq => by rw [mup_off (by omega), mup_off (by omega)]; exact h.state q hq, fun q hq => (mup_off (by omega)).trans (h.pos q hq), fun q hq => (mup_off (by omega)).trans (h.marks q hq), fun q hq => (mup_off (by omega)).trans (h.got q hq), fun q g hq hg => by
    show _ = yu S.rained i (yu (S.rained i) f v) q g
    rw [mup_row, h.rained q g hq hg]
    by_cases e : q = i
    · subst e
      by_cases e' : g = f
      · subst e'; simp [yu_on]
      · rw [if_neg (by omega), yu_on, yu_off e']
    · rw [if_neg (by omega), yu_off e]⟩
theorem yRS.keep {M M' : zMem} {sl : Nat} {o : Int32} {T : yT} {S : yA} {P : Nat → Nat → Prop} (h : yRS M sl o T S) (f : zfr P M M') (h1 : ¬ P 213 49) (h2 : ¬ P 213 50) (h3 : ∀ k i, 215 ≤ k → k < 232 → ¬ P k i) (h4 : ∀ k i, k ≠ 213 → yTR sl k i → ¬ P k i) : yRS M' sl o T S := by
  have l1 := h.lt
  have n1 := h.tk.nc
  have n2 := h.tk.nh
  have n3 := h.tk.nf
  exact ⟨h.lt, h.tk, (f _ _ h1).trans h.ot, yrt_fr h.rt f h3, h.ok, (f _ _ (h4 _ _ (by omega) (by unfold yTR; omega))).trans h.hour, (f _ _ (h4 _ _ (by omega) (by unfold yTR; omega))).trans h.blown, fun q hq => (f _ _ (h4 _ _ (by omega) (by unfold yTR; omega))).trans (h.cell q hq), fun q hq => (f _ _ (h4 _ _ (by omega) (by unfold yTR; omega))).trans (h.size q hq), fun q hq => (f _ _ (h4 _ _ (by omega) (by unfold yTR; omega))).trans (h.age q hq), fun q hq => (f _ _ (h4 _ _ (by omega) (by unfold yTR; omega))).trans (h.owner q hq), fun q hq => by rw [f 213 50 h2, f 240 _ (h4 _ _ (by omega) (by unfold yTR; omega))]; exact h.state q hq, fun q hq => (f _ _ (h4 _ _ (by omega) (by unfold yTR; omega))).trans (h.pos q hq), fun q hq => (f _ _ (h4 _ _ (by omega) (by unfold yTR; omega))).trans (h.marks q hq), fun q hq => (f _ _ (h4 _ _ (by omega) (by unfold yTR; omega))).trans (h.got q hq), fun q g hq hg => (f _ _ (h4 _ _ (by omega) (by unfold yTR; omega))).trans (h.rained q g hq hg)⟩

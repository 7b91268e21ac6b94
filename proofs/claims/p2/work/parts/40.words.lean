/-! Words for the data. -/
def vP (n : Nat) : Int := Int.ofNat n
def vM (n : Nat) : Int := Int.negSucc n
def vz : sA := .inr (.inl none)
def vr (k : Nat) : sA := .inr (.inl (some k))
def vl : sA := .inr (.inr (.inl none))
def vc (z : Int) : sA := .inr (.inr (.inl (some z)))
def vu : sA := .inr (.inr (.inr ()))
def wb (l h : Int) : sW := .inr ((l, h), none)
def wu (l h : Int) (u : sF) : sW := .inr ((l, h), some u)
def vR (ty : FieldType) (n : Nat) (fs : List sW) (fa : List (sF × pI)) : sC := .inl (ty, s_num (Int.ofNat n), fs, [], fa)
def vQ (ty : FieldType) (n : sF) (fs : List sW) (fa : List (sF × pI)) : sC := .inl (ty, n, fs, [], fa)
def vO (c : Nat) (fs : List sA) : sC := .inr (.inr (.inr (c, fs)))
def vJ (n : Nat) : sC := .inr (.inl n)
def vA (n : Nat) (cs : List (Option Nat)) : sC := .inr (.inr (.inl (n, cs)))
/-- the same contract where a name is a number -/
def s_setB (E : sE) (j : Nat) (z : Int) : sE := (E.1, E.2.1.set j (z, z), E.2.2.1, E.2.2.2)
def s_var (C : sK) (j : Nat) (z : Int) : sK := match C with
  | (a, b, c, d, e) => (a, b, s_setB c j z, d, e)

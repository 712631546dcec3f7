/-! THE ABSTRACT MACHINE: the walked methods' instructions over numbers (Int) alone; a cell is a number, its places are numbers.
Values: jI an int, jL a long, jO c a an object of class c at cell a, jY t n a an array (t 0 int, 1 long, 2 Rule, 3 Sheet, 4 the script) of length n at cell a. -/
abbrev jV : Type := Int ⊕ (Int ⊕ ((Nat × Int) ⊕ (Nat × Int × Int)))
abbrev jI (a : Int) : jV := .inl a
abbrev jL (a : Int) : jV := .inr (.inl a)
abbrev jO (c : Nat) (a : Int) : jV := .inr (.inr (.inl (c, a)))
abbrev jY (t : Nat) (n a : Int) : jV := .inr (.inr (.inr (t, n, a)))
abbrev jS : Type := List (Option jV)
abbrev jM : Type := Int → Int → Int
/-- one place of the memory gets a value -/
def jUp (m : jM) (k i v : Int) : jM := fun a b => if a = k ∧ b = i then v else m a b
/-- n places from sp on of a0 come to a1, dp -/
def jCp (m : jM) (a0 sp a1 dp n : Int) : jM := fun k i => if k = a1 ∧ dp ≤ i ∧ i < dp + n then m a0 (sp + (i - dp)) else m k i
/-- a number as an int keeps it, as a long keeps it (said so that linear arithmetic reads it) -/
def w32 (z : Int) : Int := (z + 2147483648) % 4294967296 - 2147483648
def w64 (z : Int) : Int := (z + 9223372036854775808) % 18446744073709551616 - 9223372036854775808
def iAnd (a b : Int) : Int := (Int32.ofInt a &&& Int32.ofInt b).toInt
def iOr (a b : Int) : Int := (Int32.ofInt a ||| Int32.ofInt b).toInt
def iXor (a b : Int) : Int := (Int32.ofInt a ^^^ Int32.ofInt b).toInt
def iShl (a b : Int) : Int := (Int32.ofInt a <<< (Int32.ofInt b &&& 31)).toInt
def iShr (a b : Int) : Int := (Int32.ofInt a >>> (Int32.ofInt b &&& 31)).toInt
def iUshr (a b : Int) : Int := ((Int32.ofInt a).toUInt32 >>> ((Int32.ofInt b).toUInt32 &&& Int32.toUInt32 31)).toInt32.toInt
def iDiv (a b : Int) : Int := w32 (a.tdiv b)
def iRem (a b : Int) : Int := a.tmod b
def lAnd (a b : Int) : Int := (Int64.ofInt a &&& Int64.ofInt b).toInt
def lOr (a b : Int) : Int := (Int64.ofInt a ||| Int64.ofInt b).toInt
def lXor (a b : Int) : Int := (Int64.ofInt a ^^^ Int64.ofInt b).toInt
def lShl (a b : Int) : Int := (Int64.ofInt a <<< ((Int32.ofInt b).toInt64 &&& 63)).toInt
def lDiv (a b : Int) : Int := w64 (a.tdiv b)
def lRem (a b : Int) : Int := a.tmod b
def i2b (a : Int) : Int := (a + 128) % 256 - 128
/-- what a method's number says: its place in the tables, how many arguments, what it answers (0 nothing, 1 int, 2 long, 3 boolean), its locals, its class, how it is called (0 static, 1 virtual, 2 a constructor), its mode (0 as ever, 1 it makes cells, 2 a leaf), how many cells it makes -/
def jIx (z : Nat) : Nat := z % 256
def jNa (z : Nat) : Nat := z / 256 % 16
def jRt (z : Nat) : Nat := z / 4096 % 8
def jMx (z : Nat) : Nat := z / 32768 % 64
def jCl (z : Nat) : Nat := z / 2097152 % 16
def jKi (z : Nat) : Nat := z / 33554432 % 4
def jMd (z : Nat) : Nat := z / 134217728 % 4
def jMc (z : Nat) : Nat := z / 536870912
/-- what a field's number says: class, place, tag (0 int, 1 long, 2 boolean, 3 an object that stays, 4 an array that stays, 5 an object that may change), the object's class or the array's sort, how far behind the holder the cell lies, its length -/
def jFc (f : Nat) : Nat := f % 16
def jFj (f : Nat) : Nat := f / 16 % 128
def jFg (f : Nat) : Nat := f / 2048 % 8
def jFt (f : Nat) : Nat := f / 16384 % 32
def jFo (f : Nat) : Nat := f / 524288 % 1024
def jFl (f : Nat) : Nat := f / 536870912
/-- locals -/
def jKl (ls : jS) (i : Nat) : jS := match i with
  | 0 => ls
  | i + 1 => match ls[i]? with
    | some (some (.inr (.inl _))) => ls.set i none
    | _ => ls
def jSt1 (ls : jS) (i : Nat) (v : jV) : Option jS := if i < ls.length then some ((jKl ls i).set i (some v)) else none
def jSt2 (ls : jS) (i : Nat) (v : jV) : Option jS := if i + 1 < ls.length then some (((jKl ls i).set i (some v)).set (i + 1) none) else none
def jLay : List jV → jS
  | [] => []
  | .inr (.inl a) :: r => some (.inr (.inl a)) :: none :: jLay r
  | v :: r => some v :: jLay r
def jEnt (z : Nat) (args : List jV) : jS := jLay args ++ List.replicate (jMx z - (jLay args).length) none
def jCat : jV → Nat
  | .inr (.inl _) => 2
  | _ => 1
def jCats (st : List jV) : Nat := (st.map jCat).sum
def jPush (rt : Nat) (v : Int) (st : List jV) : List jV := match rt with
  | 0 => st
  | 2 => .inr (.inl v) :: st
  | _ => .inl v :: st
/-- where an instruction leads: on; on if ..; two ways; many ways; a call; the end -/
abbrev jE : Type := (Nat × jS × List jV × jM) ⊕ ((Prop × Nat × jS × List jV × jM) ⊕ ((Prop × Nat × Nat × List jV) ⊕ ((List (Prop × Nat) × List jV) ⊕ ((Nat × List jV × List jV) ⊕ Int))))
abbrev jN (pc : Nat) (ls : jS) (st : List jV) (m : jM) : Option jE := some (.inl (pc, ls, st, m))
abbrev jG (c : Prop) (pc : Nat) (ls : jS) (st : List jV) (m : jM) : Option jE := some (.inr (.inl (c, pc, ls, st, m)))
abbrev jB (c : Prop) (p1 p2 : Nat) (st : List jV) : Option jE := some (.inr (.inr (.inl (c, p1, p2, st))))
abbrev jW (l : List (Prop × Nat)) (st : List jV) : Option jE := some (.inr (.inr (.inr (.inl (l, st)))))
abbrev jC (y : Nat) (args st : List jV) : Option jE := some (.inr (.inr (.inr (.inr (.inl (y, args, st))))))
abbrev jR (v : Int) : Option jE := some (.inr (.inr (.inr (.inr (.inr v)))))
def jBr (c : Jvm.ClassFile.Cond) (x y : Int) (t n : Nat) (st : List jV) : Option jE := match c with
  | .eq => jB (x = y) t n st
  | .ne => jB (x = y) n t st
  | .lt => jB (x < y) t n st
  | .ge => jB (x < y) n t st
  | .gt => jB (y < x) t n st
  | .le => jB (y < x) n t st
/-- the list's spine is made plain, then it goes on -/
def jFor {β : Type} : jS → (jS → β) → β
  | [], k => k []
  | a :: l, k => jFor l (fun l' => k (a :: l'))
def jForP : jS → (jS → Prop) → Prop
  | [], k => k []
  | a :: l, k => jForP l (fun l' => k (a :: l'))
def jLs (o : Option jS) (pc : Nat) (st : List jV) (m : jM) : Option jE := match o with
  | none => none
  | some ls => jFor ls (fun ls => jN pc ls st m)

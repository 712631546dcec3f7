/-! what one instruction does; the run; the run piece by piece (jWp) -/
/-- a new cell: all its places at 0, references at none (-1) -/
def jNw (m : jM) : jM := fun k i => if k = m (-3) 0 then jDf k i else if k = -3 ∧ i = 0 then m (-3) 0 + 1 else m k i
def jLim (m : jM) (y : Nat) : jM := jUp m (-2) (-7) (m (-3) 0 + (jMc y : Int))
/-- a field is read -/
def jGet (md f : Nat) (c : Nat) (a : Int) (m : jM) (k : jV → Option jE) (g : Prop → jV → Option jE) : Option jE :=
  if c = jFc f then
    (match jFg f with
    | 0 => k (jI (m a (jFj f)))
    | 1 => k (jL (m a (jFj f)))
    | 2 => k (jI (m a (jFj f)))
    | 3 => if md = 0 then k (jO (jFt f) (a + jFo f)) else if md = 1 then g (m a (jFj f) = a + jFo f) (jO (jFt f) (a + jFo f)) else none
    | 4 => if md = 0 then k (jY (jFt f) (jFl f) (a + jFo f)) else if md = 1 then g (m a (jFj f) = a + jFo f) (jY (jFt f) (jFl f) (a + jFo f)) else none
    | 5 => if md = 0 then k (jO (jFt f) (m a (jFj f))) else none
    | _ => none)
  else none
/-- a field is written -/
def jPut (md f : Nat) (c : Nat) (a : Int) (v : jV) (m : jM) (k : jM → Option jE) (g : Prop → jM → Option jE) : Option jE :=
  if c = jFc f then
    (match jFg f, v with
    | 0, .inl b => k (jUp m a (jFj f) b)
    | 1, .inr (.inl b) => k (jUp m a (jFj f) b)
    | 2, .inl b => if b = 0 ∨ b = 1 then k (jUp m a (jFj f) b) else none
    | 3, .inr (.inr (.inl (t, b))) => if md = 1 ∧ t = jFt f then g (b = a + jFo f) (jUp m a (jFj f) b) else none
    | 4, .inr (.inr (.inr (t, n, b))) => if md = 1 ∧ t = jFt f ∧ n = jFl f then g (b = a + jFo f) (jUp m a (jFj f) b) else none
    | 5, .inr (.inr (.inl (t, b))) => if md ≠ 2 ∧ t = jFt f then k (jUp m a (jFj f) b) else none
    | _, _ => none)
  else none
/-- what lies on the stack, else nothing -/
def jI1 (st : List jV) (k : Int → List jV → Option jE) : Option jE := match st with
  | .inl a :: r => k a r
  | _ => none
def jL1 (st : List jV) (k : Int → List jV → Option jE) : Option jE := match st with
  | .inr (.inl a) :: r => k a r
  | _ => none
def jR1 (st : List jV) (k : (Nat × Int) ⊕ (Nat × Int × Int) → List jV → Option jE) : Option jE := match st with
  | .inr (.inr a) :: r => k a r
  | _ => none
def jO1 (st : List jV) (k : Nat → Int → List jV → Option jE) : Option jE := match st with
  | .inr (.inr (.inl (c, a))) :: r => k c a r
  | _ => none
def jY1 (st : List jV) (k : Nat → Int → Int → List jV → Option jE) : Option jE := match st with
  | .inr (.inr (.inr (t, n, a))) :: r => k t n a r
  | _ => none
def jV1 (st : List jV) (k : jV → List jV → Option jE) : Option jE := match st with
  | v :: r => k v r
  | _ => none
def jLi (ls : jS) (i : Nat) (k : Int → Option jE) : Option jE := match ls[i]? with
  | some (some (.inl a)) => k a
  | _ => none
def jLl (ls : jS) (i : Nat) (k : Int → Option jE) : Option jE := match ls[i]? with
  | some (some (.inr (.inl a))) => k a
  | _ => none
def jLa (ls : jS) (i : Nat) (k : (Nat × Int) ⊕ (Nat × Int × Int) → Option jE) : Option jE := match ls[i]? with
  | some (some (.inr (.inr a))) => k a
  | _ => none
def jIf (c : Prop) [Decidable c] (e : Option jE) : Option jE := if c then e else none
def jNc (c : Nat) : Jvm.ClassFile.Cond := match c with
  | 0 => .eq
  | 1 => .ne
  | 2 => .lt
  | 3 => .ge
  | 4 => .gt
  | _ => .le
/-- the first argument is an object of class c -/
def jHd (c : Nat) (args : List jV) : Bool := match args with
  | .inr (.inr (.inl (d, _))) :: _ => Nat.beq d c
  | _ => false
/-- none of them is the script -/
def jNs : List jV → Bool
  | [] => true
  | .inr (.inr (.inr (t, _, _))) :: r => Nat.blt t 4 && jNs r
  | _ :: r => jNs r
def jEff (z : Nat) (ai : Instr) (len pc : Nat) (ls : jS) (st : List jV) (m : jM) : Option jE := match ai with
  | .iload k => jLi ls k (fun a => jN (pc + len) ls (.inl a :: st) m)
  | .lload k => jLl ls k (fun a => jN (pc + len) ls (.inr (.inl a) :: st) m)
  | .aload k => jLa ls k (fun a => jN (pc + len) ls (.inr (.inr a) :: st) m)
  | .istore k => jI1 st (fun a r => jLs (jSt1 ls k (.inl a)) (pc + len) r m)
  | .lstore k => jL1 st (fun a r => jLs (jSt2 ls k (.inr (.inl a))) (pc + len) r m)
  | .astore k => jR1 st (fun a r => jLs (jSt1 ls k (.inr (.inr a))) (pc + len) r m)
  | .iinc k n => jLi ls k (fun a => jLs (jSt1 ls k (.inl (w32 (a + n)))) (pc + len) st m)
  | .iconst v => jN (pc + len) ls (.inl v :: st) m
  | .sipush v => jN (pc + len) ls (.inr (.inl v) :: st) m
  | .dup => jR1 st (fun a r => jN (pc + len) ls (.inr (.inr a) :: .inr (.inr a) :: r) m)
  | .dup2 => jI1 st (fun a r => jR1 r (fun b r => jN (pc + len) ls (.inl a :: .inr (.inr b) :: .inl a :: .inr (.inr b) :: r) m))
  | .pop2 => jL1 st (fun _ r => jN (pc + len) ls r m)
  | .pop => jO1 st (fun _ _ r => jIf (jCats r ≤ 8) (jN (pc + len) ls r m))
  | .iadd => jI1 st (fun b r => jI1 r (fun a r => jN (pc + len) ls (.inl (w32 (a + b)) :: r) m))
  | .isub => jI1 st (fun b r => jI1 r (fun a r => jN (pc + len) ls (.inl (w32 (a - b)) :: r) m))
  | .imul => jI1 st (fun b r => jI1 r (fun a r => jN (pc + len) ls (.inl (w32 (a * b)) :: r) m))
  | .iand => jI1 st (fun b r => jI1 r (fun a r => jN (pc + len) ls (.inl (iAnd a b) :: r) m))
  | .ior => jI1 st (fun b r => jI1 r (fun a r => jN (pc + len) ls (.inl (iOr a b) :: r) m))
  | .ixor => jI1 st (fun b r => jI1 r (fun a r => jN (pc + len) ls (.inl (iXor a b) :: r) m))
  | .ishl => jI1 st (fun b r => jI1 r (fun a r => jN (pc + len) ls (.inl (iShl a b) :: r) m))
  | .ishr => jI1 st (fun b r => jI1 r (fun a r => jN (pc + len) ls (.inl (iShr a b) :: r) m))
  | .iushr => jI1 st (fun b r => jI1 r (fun a r => jN (pc + len) ls (.inl (iUshr a b) :: r) m))
  | .idiv => jI1 st (fun b r => jI1 r (fun a r => jG (b ≠ 0) (pc + len) ls (.inl (iDiv a b) :: r) m))
  | .irem => jI1 st (fun b r => jI1 r (fun a r => jG (b ≠ 0) (pc + len) ls (.inl (iRem a b) :: r) m))
  | .i2l => jI1 st (fun a r => jN (pc + len) ls (.inr (.inl a) :: r) m)
  | .l2i => jL1 st (fun a r => jN (pc + len) ls (.inl (w32 a) :: r) m)
  | .i2b => jI1 st (fun a r => jN (pc + len) ls (.inl (i2b a) :: r) m)
  | .lneg => jL1 st (fun a r => jN (pc + len) ls (.inr (.inl (w64 (-a))) :: r) m)
  | .ladd => jL1 st (fun b r => jL1 r (fun a r => jN (pc + len) ls (.inr (.inl (w64 (a + b))) :: r) m))
  | .lsub => jL1 st (fun b r => jL1 r (fun a r => jN (pc + len) ls (.inr (.inl (w64 (a - b))) :: r) m))
  | .lmul => jL1 st (fun b r => jL1 r (fun a r => jN (pc + len) ls (.inr (.inl (w64 (a * b))) :: r) m))
  | .land => jL1 st (fun b r => jL1 r (fun a r => jN (pc + len) ls (.inr (.inl (lAnd a b)) :: r) m))
  | .lor => jL1 st (fun b r => jL1 r (fun a r => jN (pc + len) ls (.inr (.inl (lOr a b)) :: r) m))
  | .lxor => jL1 st (fun b r => jL1 r (fun a r => jN (pc + len) ls (.inr (.inl (lXor a b)) :: r) m))
  | .lshl => jI1 st (fun b r => jL1 r (fun a r => jN (pc + len) ls (.inr (.inl (lShl a b)) :: r) m))
  | .ldiv => jL1 st (fun b r => jL1 r (fun a r => jG (b ≠ 0) (pc + len) ls (.inr (.inl (lDiv a b)) :: r) m))
  | .lrem => jL1 st (fun b r => jL1 r (fun a r => jG (b ≠ 0) (pc + len) ls (.inr (.inl (lRem a b)) :: r) m))
  | .goto t => jN t.toNat ls st m
  | .ifCond c t => jI1 st (fun a r => jBr c a 0 t.toNat (pc + len) r)
  | .if_icmp c t => jI1 st (fun b r => jI1 r (fun a r => jBr c a b t.toNat (pc + len) r))
  | .lookupswitch d ps => jI1 st (fun a r => jW (ps.toList.map (fun q => (a = q.1, q.2.toNat)) ++ [(∀ q ∈ ps.toList, a ≠ q.1, d.toNat)]) r)
  | .tableswitch d lo hi os => jI1 st (fun a r => jIf (os.size = (hi + 1 - lo).toNat) (jW (os.toList.zipIdx.map (fun q => (a = lo + (q.2 : Int), q.1.toNat)) ++ [(a < lo ∨ hi < a, d.toNat)]) r))
  /- lcmp, and the branch behind it: the condition, the target -/
  | .multianewarray c t => jL1 st (fun b r => jL1 r (fun a r => jBr (jNc c) a b t (pc + len) r))
  | .getfield f => jO1 st (fun c a r => jGet (jMd z) f c a m (fun v => jN (pc + len) ls (v :: r) m) (fun g v => jG g (pc + len) ls (v :: r) m))
  | .putfield f => jV1 st (fun v r => jO1 r (fun c a r => jPut (jMd z) f c a v m (fun m => jN (pc + len) ls r m) (fun g m => jG g (pc + len) ls r m)))
  | .arraylength => jY1 st (fun _ n _ r => jN (pc + len) ls (.inl n :: r) m)
  | .iaload => jI1 st (fun i r => jY1 r (fun t n a r => jIf (t = 0 ∨ t = 4) (jG (0 ≤ i ∧ i < n) (pc + len) ls (.inl (m a i) :: r) m)))
  | .laload => jI1 st (fun i r => jY1 r (fun t n a r => jIf (t = 1) (jG (0 ≤ i ∧ i < n) (pc + len) ls (.inr (.inl (m a i)) :: r) m)))
  | .aaload => jI1 st (fun i r => jY1 r (fun t n a r => jIf (jMd z = 0 ∧ (t = 2 ∨ t = 3)) (jG (0 ≤ i ∧ i < n) (pc + len) ls (.inr (.inr (.inl (t + 4, m a i))) :: r) m)))
  | .iastore => jI1 st (fun v r => jI1 r (fun i r => jY1 r (fun t n a r => jIf (t = 0) (jG (0 ≤ i ∧ i < n) (pc + len) ls r (jUp m a i v)))))
  | .lastore => jL1 st (fun v r => jI1 r (fun i r => jY1 r (fun t n a r => jIf (t = 1) (jG (0 ≤ i ∧ i < n) (pc + len) ls r (jUp m a i v)))))
  | .aastore => jO1 st (fun c b r => jI1 r (fun i r => jY1 r (fun t n a r => jIf (jMd z ≠ 2 ∧ (t = 2 ∨ t = 3) ∧ c = t + 4) (jG (0 ≤ i ∧ i < n) (pc + len) ls r (jUp m a i b)))))
  | .new c => jIf (jMd z = 1) (jG (m (-3) 0 < m (-2) (-7) ∧ jKd (m (-3) 0) = c) (pc + len) ls (.inr (.inr (.inl (c, m (-3) 0))) :: st) (jNw m))
  | .newarray .int => jI1 st (fun n r => jIf (jMd z = 1) (jG (m (-3) 0 < m (-2) (-7) ∧ jKd (m (-3) 0) = 20 ∧ jLn (m (-3) 0) = n) (pc + len) ls (.inr (.inr (.inr (0, n, m (-3) 0))) :: r) (jNw m)))
  | .newarray .long => jI1 st (fun n r => jIf (jMd z = 1) (jG (m (-3) 0 < m (-2) (-7) ∧ jKd (m (-3) 0) = 21 ∧ jLn (m (-3) 0) = n) (pc + len) ls (.inr (.inr (.inr (1, n, m (-3) 0))) :: r) (jNw m)))
  | .anewarray t => jI1 st (fun n r => jIf (jMd z = 1 ∧ (t = 2 ∨ t = 3)) (jG (m (-3) 0 < m (-2) (-7) ∧ jKd (m (-3) 0) = 20 + t ∧ jLn (m (-3) 0) = n) (pc + len) ls (.inr (.inr (.inr (t, n, m (-3) 0))) :: r) (jNw m)))
  /- System.arraycopy -/
  | .swap => jI1 st (fun n r => jI1 r (fun dp r => jY1 r (fun t1 n1 a1 r => jI1 r (fun sp r => jY1 r (fun t0 n0 a0 r => jIf (t0 = t1 ∧ (t1 = 0 ∨ t1 = 1) ∧ jCats r ≤ 8) (jG (0 ≤ sp ∧ 0 ≤ dp ∧ 0 ≤ n ∧ sp + n ≤ n0 ∧ dp + n ≤ n1) (pc + len) ls r (jCp m a0 sp a1 dp n)))))))
  | .invokestatic y => jIf (jNa y ≤ st.length ∧ jCats (st.drop (jNa y)) ≤ 8 ∧ (jLay (st.take (jNa y)).reverse).length ≤ jMx y ∧ (jKi y = 0 ∨ jHd (jCl y) (st.take (jNa y)).reverse = true) ∧ jNs (st.take (jNa y)) = true) (jC y (st.take (jNa y)).reverse (st.drop (jNa y)))
  | .ireturn => jI1 st (fun a r => jIf (r.isEmpty = true ∧ (jRt z = 1 ∨ jRt z = 3)) (jR a))
  | .lreturn => jL1 st (fun a r => jIf (r.isEmpty = true ∧ jRt z = 2) (jR a))
  | .return_ => jIf (st.isEmpty = true ∧ jRt z = 0) (jR 0)
  | _ => none
/-- a call, by the modes of caller and callee -/
def jCal (z y : Nat) (C : Nat → List jV → jM → (Int → jM → Prop) → Prop) (args : List jV) (m : jM) (K : Int → jM → Prop) : Prop := match jMd z, jMd y with
  | 0, 0 => C y args m K
  | 0, 2 => C y args m K
  | 1, 2 => C y args m K
  | 1, 0 => jFull m ∧ C y args m (fun v m' => jFull m' → K v m')
  | 1, 1 => m (-3) 0 + (jMc y : Int) ≤ m (-2) (-7) ∧ C y args (jLim m y) (fun v m' => K v (jUp m' (-2) (-7) (m (-2) (-7))))
  | _, _ => False
def jRet (z : Nat) (v : Int) (m : jM) (Q : Int → jM → Prop) : Prop := match jMd z with
  | 1 => m (-3) 0 = m (-2) (-7) ∧ Q v m
  | _ => if jRt z = 3 then (if v = 0 ∨ v = 1 then Q v m else False) else Q v m
def jStp (z : Nat) (C : Nat → List jV → jM → (Int → jM → Prop) → Prop) (X : Nat → jS → List jV → jM → Prop) (Q : Int → jM → Prop) (pc len : Nat) (ls : jS) (m : jM) (e : Option jE) : Prop := match e with
  | none => False
  | some (.inl (p, l, s, m')) => X p l s m'
  | some (.inr (.inl (c, p, l, s, m'))) => c ∧ X p l s m'
  | some (.inr (.inr (.inl (c, p1, p2, s)))) => (c → X p1 ls s m) ∧ (¬ c → X p2 ls s m)
  | some (.inr (.inr (.inr (.inl (l, s))))) => l.foldr (fun q r => (q.1 → X q.2 ls s m) ∧ r) True
  | some (.inr (.inr (.inr (.inr (.inl (y, args, s)))))) => jCal z y C args m (fun v m' => X (pc + len) ls (jPush (jRt y) v s) m')
  | some (.inr (.inr (.inr (.inr (.inr v))))) => jRet z v m Q
def jLe (l0 l : jS) : Prop := l0.length = l.length ∧ ∀ (i : Nat) (v : jV), l0[i]? = some (some v) → l[i]? = some (some v)
def jAt (z : Nat) (C : Nat → List jV → jM → (Int → jM → Prop) → Prop) (X : Nat → jS → List jV → jM → Prop) (Q : Int → jM → Prop) (pc : Nat) (ls : jS) (st : List jV) (m : jM) : Prop := match jIns z pc with
  | none => False
  | some (ai, len) => jStp z C X Q pc len ls m (jEff z ai len pc ls st m)
/-- closed under steps, and under knowing more of the locals -/
def jClo (z : Nat) (C : Nat → List jV → jM → (Int → jM → Prop) → Prop) (Q : Int → jM → Prop) (P : Nat → jS → List jV → jM → Prop) : Prop :=
  (∀ pc ls st m, jAt z C P Q pc ls st m → P pc ls st m) ∧ ∀ pc l0 ls st m, jLe l0 ls → P pc l0 st m → P pc ls st m
/-- from here it ends, with Q, at most d calls deep: the least of what is closed -/
def jA : Nat → Nat → Nat → jS → List jV → jM → (Int → jM → Prop) → Prop
  | 0, z, pc, ls, st, m, Q => ∀ P : Nat → jS → List jV → jM → Prop, jClo z (fun _ _ _ _ => False) Q P → P pc ls st m
  | d + 1, z, pc, ls, st, m, Q => ∀ P : Nat → jS → List jV → jM → Prop, jClo z (fun y args m K => jA d y 0 (jEnt y args) [] m K) Q P → P pc ls st m
/-- the call ends, with Q -/
def jK (d z : Nat) (args : List jV) (m : jM) (Q : Int → jM → Prop) : Prop := jA d z 0 (jEnt z args) [] m Q
def jCa (d y : Nat) (args : List jV) (m : jM) (K : Int → jM → Prop) : Prop := match d with
  | 0 => False
  | d' + 1 => jK d' y args m K
def jMask : List Bool → jS → jS
  | [], l => l
  | _, [] => []
  | true :: b, v :: l => v :: jMask b l
  | false :: b, _ :: l => none :: jMask b l
/-- the code from an instruction on -/
def jGo (p : Nat) : List (Nat × Instr × Nat) → Option (List (Nat × Instr × Nat))
  | [] => none
  | q :: r => bif Nat.beq q.1 p then some (q :: r) else jGo p r
/-- a piece of a method, up to the cuts -/
def jWp (cs : List (Nat × List Bool)) (d z : Nat) (Q : Int → jM → Prop) : Nat → List (Nat × Instr × Nat) → Nat → jS → List jV → jM → Prop
  | 0, _, pc, ls, st, m => jA d z pc ls st m Q
  | n + 1, code, pc, ls, st, m => (match jGo pc code with
    | none => jA d z pc ls st m Q
    | some [] => jA d z pc ls st m Q
    | some ((pc, ai, len) :: r) => jStp z (jCa d) (fun pc ls st m => match cs.lookup pc with
      | some b => jA d z pc (jMask b ls) st m Q
      | none => jWp cs d z Q n r pc ls st m) Q pc len ls m (jEff z ai len pc ls st m))

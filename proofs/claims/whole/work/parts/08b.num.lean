/-! numbers: the machine's ints and longs against Int -/
theorem w32_bmod (z : Int) : w32 z = z.bmod 4294967296 := by
  unfold w32
  rw [Int.bmod_def]
  split <;> omega
theorem w64_bmod (z : Int) : w64 z = z.bmod 18446744073709551616 := by
  unfold w64
  rw [Int.bmod_def]
  split <;> omega
theorem i2b_bmod (z : Int) : i2b z = z.bmod 256 := by
  unfold i2b
  rw [Int.bmod_def]
  split <;> omega
theorem jn_add (x y : Int32) : w32 (x.toInt + y.toInt) = (x + y).toInt := (w32_bmod _).trans (Int32.toInt_add x y).symm
theorem jn_sub (x y : Int32) : w32 (x.toInt - y.toInt) = (x - y).toInt := (w32_bmod _).trans (Int32.toInt_sub x y).symm
theorem jn_mul (x y : Int32) : w32 (x.toInt * y.toInt) = (x * y).toInt := (w32_bmod _).trans (Int32.toInt_mul x y).symm
theorem jn_div (x y : Int32) : iDiv x.toInt y.toInt = (x / y).toInt := (w32_bmod _).trans (Int32.toInt_div x y).symm
theorem jn_ofI (x : Int32) : Int32.ofInt x.toInt = x := Int32.ofInt_toInt x
theorem jn_ofL (x : Int64) : Int64.ofInt x.toInt = x := Int64.ofInt_toInt x
theorem jn_and (x y : Int32) : iAnd x.toInt y.toInt = (x &&& y).toInt := by unfold iAnd; rw [jn_ofI, jn_ofI]
theorem jn_or (x y : Int32) : iOr x.toInt y.toInt = (x ||| y).toInt := by unfold iOr; rw [jn_ofI, jn_ofI]
theorem jn_xor (x y : Int32) : iXor x.toInt y.toInt = (x ^^^ y).toInt := by unfold iXor; rw [jn_ofI, jn_ofI]
theorem jn_shl (x y : Int32) : iShl x.toInt y.toInt = (x <<< (y &&& 31)).toInt := by unfold iShl; rw [jn_ofI, jn_ofI]
theorem jn_shr (x y : Int32) : iShr x.toInt y.toInt = (x >>> (y &&& 31)).toInt := by unfold iShr; rw [jn_ofI, jn_ofI]
theorem jn_ushr (x y : Int32) : iUshr x.toInt y.toInt = ((x.toUInt32 >>> (y.toUInt32 &&& Int32.toUInt32 31)).toInt32).toInt := by unfold iUshr; rw [jn_ofI, jn_ofI]
theorem jn_rem (x y : Int32) : iRem x.toInt y.toInt = (x - x / y * y).toInt := by
  rw [Int32.toInt_sub, Int32.toInt_mul, Int32.toInt_div]
  unfold iRem
  have h1 := Int.tdiv_mul_add_tmod x.toInt y.toInt
  have h3 : ∀ u : Int32, u.toInt.bmod (2 ^ 32) = u.toInt := fun u => by rw [← Int32.toInt_ofInt, Int32.ofInt_toInt]
  have h2 : (x.toInt.tmod y.toInt).bmod (2 ^ 32) = x.toInt.tmod y.toInt := by
    have h4 := h3 (x % y)
    rwa [Int32.toInt_mod] at h4
  rw [Int.bmod_mul_bmod, Int.sub_bmod_bmod, ← h2]
  congr 1
  omega
theorem jn_ladd (x y : Int64) : w64 (x.toInt + y.toInt) = (x + y).toInt := (w64_bmod _).trans (Int64.toInt_add x y).symm
theorem jn_lsub (x y : Int64) : w64 (x.toInt - y.toInt) = (x - y).toInt := (w64_bmod _).trans (Int64.toInt_sub x y).symm
theorem jn_lmul (x y : Int64) : w64 (x.toInt * y.toInt) = (x * y).toInt := (w64_bmod _).trans (Int64.toInt_mul x y).symm
theorem jn_lneg (x : Int64) : w64 (-x.toInt) = (-x).toInt := (w64_bmod _).trans (Int64.toInt_neg x).symm
theorem jn_ldiv (x y : Int64) : lDiv x.toInt y.toInt = (x / y).toInt := (w64_bmod _).trans (Int64.toInt_div x y).symm
theorem jn_land (x y : Int64) : lAnd x.toInt y.toInt = (x &&& y).toInt := by unfold lAnd; rw [jn_ofL, jn_ofL]
theorem jn_lor (x y : Int64) : lOr x.toInt y.toInt = (x ||| y).toInt := by unfold lOr; rw [jn_ofL, jn_ofL]
theorem jn_lxor (x y : Int64) : lXor x.toInt y.toInt = (x ^^^ y).toInt := by unfold lXor; rw [jn_ofL, jn_ofL]
theorem jn_lshl (x : Int64) (y : Int32) : lShl x.toInt y.toInt = (x <<< (y.toInt64 &&& 63)).toInt := by unfold lShl; rw [jn_ofL, jn_ofI]
theorem jn_lrem (x y : Int64) : lRem x.toInt y.toInt = (x - x / y * y).toInt := by
  rw [Int64.toInt_sub, Int64.toInt_mul, Int64.toInt_div]
  unfold lRem
  have h1 := Int.tdiv_mul_add_tmod x.toInt y.toInt
  have h3 : ∀ u : Int64, u.toInt.bmod (2 ^ 64) = u.toInt := fun u => by rw [← Int64.toInt_ofInt, Int64.ofInt_toInt]
  have h2 : (x.toInt.tmod y.toInt).bmod (2 ^ 64) = x.toInt.tmod y.toInt := by
    have h4 := h3 (x % y)
    rwa [Int64.toInt_mod] at h4
  rw [Int.bmod_mul_bmod, Int.sub_bmod_bmod, ← h2]
  congr 1
  omega
theorem jn_i2l (x : Int32) : x.toInt = (x.toInt64).toInt := by simp
theorem jn_l2i (x : Int64) : w32 x.toInt = (x.toInt32).toInt := by rw [w32_bmod]; simp
theorem jn_i2b (x : Int32) : i2b x.toInt = (x.toInt8.toInt32).toInt := by rw [i2b_bmod]; simp
theorem jn_iconst {v : Int} (h : v.bmod 4294967296 = v) : v = (Int32.ofInt v).toInt := by rw [Int32.toInt_ofInt]; exact h.symm
theorem jn_bipush {v : Int} (h : v.bmod 256 = v) : v = ((Int8.ofInt v).toInt32).toInt := by rw [Int8.toInt_toInt32, Int8.toInt_ofInt]; exact h.symm
theorem jn_sipush {v : Int} (h : v.bmod 65536 = v) : v = ((Int16.ofInt v).toInt32).toInt := by rw [Int16.toInt_toInt32, Int16.toInt_ofInt]; exact h.symm
theorem jn_lconst (k : Fin 2) : ((k.val : Nat) : Int) = (Int64.ofNat k.val).toInt := by
  match k with
  | 0 => rfl
  | 1 => rfl
theorem jn_iinc (x : Int32) (n : Int) : w32 (x.toInt + n) = (x + Int32.ofInt n).toInt := by
  rw [Int32.toInt_add, Int32.toInt_ofInt, w32_bmod]
  exact (Int.add_bmod_bmod).symm
theorem jn_lt {x y : Int32} : x < y ↔ x.toInt < y.toInt := Int32.lt_iff_toInt_lt
theorem jn_le {x y : Int32} : x ≤ y ↔ x.toInt ≤ y.toInt := Int32.le_iff_toInt_le
theorem jn_eq {x y : Int32} : x = y ↔ x.toInt = y.toInt := Int32.toInt_inj.symm
theorem jn_llt {x y : Int64} : x < y ↔ x.toInt < y.toInt := Int64.lt_iff_toInt_lt
theorem jn_leq {x y : Int64} : x = y ↔ x.toInt = y.toInt := Int64.toInt_inj.symm
theorem jn_0 : (0 : Int32).toInt = 0 := by decide
theorem jn_in {x : Int32} {n : Int} (h : 0 ≤ x.toInt ∧ x.toInt < n) : vp_in x n.toNat := vp_in_iff.mpr ⟨h.1, by omega⟩
theorem jn_cl {x : Int32} (h : 0 ≤ x.toInt) : (x.toNatClampNeg : Int) = x.toInt := by
  have hc : x.toNatClampNeg = x.toInt.toNat := rfl
  omega
/-- lcmp, then a branch -/
theorem jn_cmp (x y : Int64) : (lg_cmp x y).toInt = if y.toInt < x.toInt then 1 else if x.toInt = y.toInt then 0 else -1 := by
  unfold lg_cmp
  by_cases h : y < x
  · rw [if_pos h, if_pos (jn_llt.mp h)]; decide
  · rw [if_neg h, if_neg (fun q => h (jn_llt.mpr q))]
    by_cases h2 : x = y
    · rw [if_pos h2, if_pos (jn_leq.mp h2)]; decide
    · rw [if_neg h2, if_neg (fun q => h2 (jn_leq.mpr q))]; decide
theorem jn_w32 (a : Int) : w32 a = (Int32.ofInt (w32 a)).toInt := by rw [Int32.toInt_ofInt, w32_bmod]; exact (Int.bmod_bmod).symm

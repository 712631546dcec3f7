/-! bits of numbers -/
def bt (x j : Int) : Bool := (Int32.ofInt x).toBitVec.getLsbD j.toNat
theorem bt_or (x y j : Int) : bt (iOr x y) j = (bt x j || bt y j) := by
  unfold bt iOr
  rw [jn_ofI, Int32.toBitVec_or, BitVec.getLsbD_or]
theorem bt_and (x y j : Int) : bt (iAnd x y) j = (bt x j && bt y j) := by
  unfold bt iAnd
  rw [jn_ofI, Int32.toBitVec_and, BitVec.getLsbD_and]
theorem bt_xor (x y j : Int) : bt (iXor x y) j = (bt x j ^^ bt y j) := by
  unfold bt iXor
  rw [jn_ofI, Int32.toBitVec_xor, BitVec.getLsbD_xor]
theorem bt_ones {j : Int} (h : 0 ≤ j ∧ j < 32) : bt (-1) j = true := by
  obtain ⟨n, rfl⟩ : ∃ n : Nat, j = n := ⟨j.toNat, by omega⟩
  have : n < 32 := by omega
  unfold bt
  have h2 : ∀ n : Fin 32, (Int32.ofInt (-1)).toBitVec.getLsbD n.val = true := by decide +kernel
  exact h2 ⟨n, this⟩
theorem bt_one {k j : Int} (hk : 0 ≤ k ∧ k < 32) (hj : 0 ≤ j ∧ j < 32) : bt (iShl 1 k) j = decide (j = k) := by
  obtain ⟨n, rfl⟩ : ∃ n : Nat, j = n := ⟨j.toNat, by omega⟩
  obtain ⟨q, rfl⟩ : ∃ n : Nat, k = n := ⟨k.toNat, by omega⟩
  have h2 : ∀ n q : Fin 32, bt (iShl 1 (q.val : Int)) (n.val : Int) = decide ((n.val : Int) = (q.val : Int)) := by decide +kernel
  exact h2 ⟨n, by omega⟩ ⟨q, by omega⟩
theorem bt_get {x j : Int} (hj : 0 ≤ j ∧ j < 32) : iAnd (iShr x j) 1 = if bt x j then 1 else 0 := by
  obtain ⟨n, rfl⟩ : ∃ n : Nat, j = n := ⟨j.toNat, by omega⟩
  have hn : n < 32 := by omega
  have e : (Int32.ofInt (n : Int) &&& 31) = Int32.ofInt (n : Int) := by
    have h2 : ∀ n : Fin 32, (Int32.ofInt (n.val : Int) &&& 31) = Int32.ofInt (n.val : Int) := by decide +kernel
    exact h2 ⟨n, hn⟩
  have e2 : ((Int32.ofInt (n : Int)).toBitVec.smod 32).toNat = n := by
    have h2 : ∀ n : Fin 32, ((Int32.ofInt (n.val : Int)).toBitVec.smod 32).toNat = n.val := by decide +kernel
    exact h2 ⟨n, hn⟩
  unfold iAnd iShr bt
  rw [jn_ofI, e, Int.toNat_natCast]
  have key : ((Int32.ofInt x >>> Int32.ofInt (n : Int)) &&& Int32.ofInt 1) = if (Int32.ofInt x).toBitVec.getLsbD n then 1 else 0 := by
    rw [← Int32.toBitVec_inj, Int32.toBitVec_and, Int32.toBitVec_shiftRight]
    apply BitVec.eq_of_getLsbD_eq
    intro i hi
    rw [BitVec.getLsbD_and, BitVec.sshiftRight_eq', e2, BitVec.getLsbD_sshiftRight]
    have h0 : ∀ b : Bool, (if b = true then (1 : Int32) else 0).toBitVec.getLsbD i = (b && decide (i = 0)) := by
      have h2 : ∀ n : Fin 32, ∀ b : Bool, (if b = true then (1 : Int32) else 0).toBitVec.getLsbD n.val = (b && decide (n.val = 0)) := by decide +kernel
      exact h2 ⟨i, hi⟩
    have h3 : (Int32.ofInt 1).toBitVec.getLsbD i = decide (i = 0) := by
      have h2 : ∀ n : Fin 32, (Int32.ofInt 1).toBitVec.getLsbD n.val = decide (n.val = 0) := by decide +kernel
      exact h2 ⟨i, hi⟩
    rw [h0, h3]
    cases i with
    | zero => simp [hn]
    | succ i => simp
  rw [key]
  split <;> rfl

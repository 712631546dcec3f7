/-! bits of numbers -/
def bt (x j : Int) : Bool := (Int32.ofInt x).toBitVec.getLsbD j.toNat
theorem bt_or (x y j : Int) : bt (iOr x y) j = (bt x j || bt y j) := by
  unfold bt iOr
  rw [jn_ofI, Int32.toBitVec_or, BitVec.getLsbD_or]
theorem bt_and (x y j : Int) : bt (iAnd x y) j = (bt x j && bt y j) := by
  unfold bt iAnd
  rw [jn_ofI, Int32.toBitVec_and, BitVec.getLsbD_and]
theorem bt_xor (x y j : Int) : bt (iXor x y) j = (bt x j ^^ bt y j) := by
  unfold bt iXor
  rw [jn_ofI, Int32.toBitVec_xor, BitVec.getLsbD_xor]
theorem bt_ones {j : Int} (h : 0 ≤ j ∧ j < 32) : bt (-1) j = true := by
  obtain ⟨n, rfl⟩ : ∃ n : Nat, j = n := ⟨j.toNat, by omega⟩
  have : n < 32 := by omega
  unfold bt
  have h2 : ∀ n : Fin 32, (Int32.ofInt (-1)).toBitVec.getLsbD n.val = true := by decide +kernel
  exact h2 ⟨n, this⟩
theorem bt_one {k j : Int} (hk : 0 ≤ k ∧ k < 32) (hj : 0 ≤ j ∧ j < 32) : bt (iShl 1 k) j = decide (j = k) := by
  obtain ⟨n, rfl⟩ : ∃ n : Nat, j = n := ⟨j.toNat, by omega⟩
  obtain ⟨q, rfl⟩ : ∃ n : Nat, k = n := ⟨k.toNat, by omega⟩
  have h2 : ∀ n q : Fin 32, bt (iShl 1 (q.val : Int)) (n.val : Int) = decide ((n.val : Int) = (q.val : Int)) := by decide +kernel
  exact h2 ⟨n, by omega⟩ ⟨q, by omega⟩
theorem bt_get {x j : Int} (hj : 0 ≤ j ∧ j < 32) : iAnd (iShr x j) 1 = if bt x j then 1 else 0 := by
  obtain ⟨n, rfl⟩ : ∃ n : Nat, j = n := ⟨j.toNat, by omega⟩
  have hn : n < 32 := by omega
  have e : (Int32.ofInt (n : Int) &&& 31) = Int32.ofInt (n : Int) := by
    have h2 : ∀ n : Fin 32, (Int32.ofInt (n.val : Int) &&& 31) = Int32.ofInt (n.val : Int) := by decide +kernel
    exact h2 ⟨n, hn⟩
  have e2 : ((Int32.ofInt (n : Int)).toBitVec.smod 32).toNat = n := by
    have h2 : ∀ n : Fin 32, ((Int32.ofInt (n.val : Int)).toBitVec.smod 32).toNat = n.val := by decide +kernel
    exact h2 ⟨n, hn⟩
  unfold iAnd iShr bt
  rw [jn_ofI, e, Int.toNat_natCast]
  have key : ((Int32.ofInt x >>> Int32.ofInt (n : Int)) &&& Int32.ofInt 1) = if (Int32.ofInt x).toBitVec.getLsbD n then 1 else 0 := by
    rw [← Int32.toBitVec_inj, Int32.toBitVec_and, Int32.toBitVec_shiftRight]
    apply BitVec.eq_of_getLsbD_eq
    intro i hi
    rw [BitVec.getLsbD_and, BitVec.sshiftRight_eq', e2, BitVec.getLsbD_sshiftRight]
    have h0 : ∀ b : Bool, (if b = true then (1 : Int32) else 0).toBitVec.getLsbD i = (b && decide (i = 0)) := by
      have h2 : ∀ n : Fin 32, ∀ b : Bool, (if b = true then (1 : Int32) else 0).toBitVec.getLsbD n.val = (b && decide (n.val = 0)) := by decide +kernel
      exact h2 ⟨i, hi⟩
    have h3 : (Int32.ofInt 1).toBitVec.getLsbD i = decide (i = 0) := by
      have h2 : ∀ n : Fin 32, (Int32.ofInt 1).toBitVec.getLsbD n.val = decide (n.val = 0) := by decide +kernel
      exact h2 ⟨i, hi⟩
    rw [h0, h3]
    cases i with
    | zero => simp [hn]
    | succ i => simp
  rw [key]
  split <;> rfl
theorem bt_ext {x y : Int} (hx : -2147483648 ≤ x ∧ x ≤ 2147483647) (hy : -2147483648 ≤ y ∧ y ≤ 2147483647) (h : ∀ j : Int, 0 ≤ j → j < 32 → bt x j = bt y j) : x = y := by
  have e : Int32.ofInt x = Int32.ofInt y := by
    rw [← Int32.toBitVec_inj]
    apply BitVec.eq_of_getLsbD_eq
    intro i hi
    have := h i (by omega) (by omega)
    unfold bt at this
    rw [Int.toNat_natCast] at this
    exact this
  have e2 := congrArg Int32.toInt e
  rw [Int32.toInt_ofInt, Int32.toInt_ofInt, ← w32_bmod, ← w32_bmod, w32_id (by omega) (by omega), w32_id (by omega) (by omega)] at e2
  exact e2
theorem io_or (x y : Int) : -2147483648 ≤ iOr x y ∧ iOr x y ≤ 2147483647 := by
  unfold iOr
  exact ⟨Int32.le_toInt _, Int32.toInt_le _⟩
theorem io_and (x y : Int) : -2147483648 ≤ iAnd x y ∧ iAnd x y ≤ 2147483647 := by
  unfold iAnd
  exact ⟨Int32.le_toInt _, Int32.toInt_le _⟩
theorem io_xor (x y : Int) : -2147483648 ≤ iXor x y ∧ iXor x y ≤ 2147483647 := by
  unfold iXor
  exact ⟨Int32.le_toInt _, Int32.toInt_le _⟩
theorem io_shl (x y : Int) : -2147483648 ≤ iShl x y ∧ iShl x y ≤ 2147483647 := by
  unfold iShl
  exact ⟨Int32.le_toInt _, Int32.toInt_le _⟩
/-- a set of judges or cases: only bits 0 .. 7 -/
def mk8 (x : Int) : Prop := 0 ≤ x ∧ x < 256
theorem mk_big {x : Int} (h : mk8 x) {j : Int} (hj : 8 ≤ j ∧ j < 32) : bt x j = false := by
  obtain ⟨n, rfl⟩ : ∃ n : Nat, j = n := ⟨j.toNat, by omega⟩
  obtain ⟨q, rfl⟩ : ∃ n : Nat, x = n := ⟨x.toNat, by unfold mk8 at h; omega⟩
  have h2 : ∀ q : Fin 256, ∀ n : Fin 24, bt (q.val : Int) (((n.val + 8 : Nat)) : Int) = false := by decide +kernel
  unfold mk8 at h
  have := h2 ⟨q, by omega⟩ ⟨n - 8, by omega⟩
  rw [show n - 8 + 8 = n by omega] at this
  exact this
theorem mk_of {x : Int} (hx : -2147483648 ≤ x ∧ x ≤ 2147483647) (h : ∀ j : Int, 8 ≤ j → j < 32 → bt x j = false) : mk8 x := by
  have e : iAnd x 255 = x := by
    apply bt_ext (io_and _ _) hx
    intro j h0 h1
    rw [bt_and]
    by_cases h8 : j < 8
    · obtain ⟨n, rfl⟩ : ∃ n : Nat, j = n := ⟨j.toNat, by omega⟩
      have h2 : ∀ n : Fin 8, bt 255 (n.val : Int) = true := by decide +kernel
      rw [show bt 255 (n : Int) = true from h2 ⟨n, by omega⟩, Bool.and_true]
    · rw [h j (by omega) h1, Bool.false_and]
  rw [← e]
  unfold iAnd mk8
  have h1 : (Int32.ofInt x &&& Int32.ofInt 255).toBitVec.toNat ≤ 255 := by
    rw [Int32.toBitVec_and, BitVec.toNat_and]
    exact Nat.and_le_right
  rw [← Int32.toInt_toBitVec, BitVec.toInt_eq_toNat_of_lt (by omega)]
  omega
theorem mk_or {x y : Int} (hx : mk8 x) (hy : mk8 y) : mk8 (iOr x y) := mk_of (io_or _ _) (fun j h1 h2 => by rw [bt_or, mk_big hx ⟨h1, h2⟩, mk_big hy ⟨h1, h2⟩]; rfl)
theorem mk_andl {x y : Int} (hx : mk8 x) : mk8 (iAnd x y) := mk_of (io_and _ _) (fun j h1 h2 => by rw [bt_and, mk_big hx ⟨h1, h2⟩]; rfl)
theorem mk_one {k : Int} (hk : 0 ≤ k ∧ k < 8) : mk8 (iShl 1 k) := mk_of (io_shl _ _) (fun j h1 h2 => by rw [bt_one ⟨hk.1, by omega⟩ ⟨by omega, h2⟩]; simp; omega)
theorem mk_or1 {x k : Int} (hx : mk8 x) (hk : 0 ≤ k ∧ k < 8) : mk8 (iOr x (iShl 1 k)) := mk_or hx (mk_one hk)
theorem mk_ext {x y : Int} (hx : mk8 x) (hy : mk8 y) (h : ∀ j : Int, 0 ≤ j → j < 8 → bt x j = bt y j) : x = y := by
  refine bt_ext (by unfold mk8 at hx; omega) (by unfold mk8 at hy; omega) (fun j h0 h1 => ?_)
  by_cases h8 : j < 8
  · exact h j h0 h8
  · rw [mk_big hx ⟨by omega, h1⟩, mk_big hy ⟨by omega, h1⟩]
theorem mk_0 : mk8 0 := by unfold mk8; omega
theorem bt_0 (j : Int) : bt 0 j = false := by
  unfold bt
  simp
/-- one judge more comes later in the order of sets -/
theorem mk_lt {x k : Int} (hx : mk8 x) (hk : 0 ≤ k ∧ k < 8) (h : bt x k = false) : x < iOr x (iShl 1 k) := by
  obtain ⟨n, rfl⟩ : ∃ n : Nat, k = n := ⟨k.toNat, by omega⟩
  obtain ⟨q, rfl⟩ : ∃ n : Nat, x = n := ⟨x.toNat, by unfold mk8 at hx; omega⟩
  have h2 : ∀ q : Fin 256, ∀ n : Fin 8, bt (q.val : Int) (n.val : Int) = false → (q.val : Int) < iOr (q.val : Int) (iShl 1 (n.val : Int)) := by decide +kernel
  unfold mk8 at hx
  exact h2 ⟨q, by omega⟩ ⟨n, by omega⟩ h
/-- how many bits of 0 .. 7 -/
def pcn (f : Int → Bool) : Nat → Int
  | 0 => 0
  | n + 1 => pcn f n + (if f n then 1 else 0)
def pc8 (x : Int) : Int := pcn (bt x) 8
def bcX (x0 : Int) : Int := (iAnd (w32 ((w32 ((iAnd (w32 ((w32 ((iAnd (w32 (x0 - (iAnd (iUshr x0 1) 1431655765))) 858993459) + (iAnd (iUshr (w32 (x0 - (iAnd (iUshr x0 1) 1431655765))) 2) 858993459))) + (iUshr (w32 ((iAnd (w32 (x0 - (iAnd (iUshr x0 1) 1431655765))) 858993459) + (iAnd (iUshr (w32 (x0 - (iAnd (iUshr x0 1) 1431655765))) 2) 858993459))) 4))) 252645135) + (iUshr (iAnd (w32 ((w32 ((iAnd (w32 (x0 - (iAnd (iUshr x0 1) 1431655765))) 858993459) + (iAnd (iUshr (w32 (x0 - (iAnd (iUshr x0 1) 1431655765))) 2) 858993459))) + (iUshr (w32 ((iAnd (w32 (x0 - (iAnd (iUshr x0 1) 1431655765))) 858993459) + (iAnd (iUshr (w32 (x0 - (iAnd (iUshr x0 1) 1431655765))) 2) 858993459))) 4))) 252645135) 8))) + (iUshr (w32 ((iAnd (w32 ((w32 ((iAnd (w32 (x0 - (iAnd (iUshr x0 1) 1431655765))) 858993459) + (iAnd (iUshr (w32 (x0 - (iAnd (iUshr x0 1) 1431655765))) 2) 858993459))) + (iUshr (w32 ((iAnd (w32 (x0 - (iAnd (iUshr x0 1) 1431655765))) 858993459) + (iAnd (iUshr (w32 (x0 - (iAnd (iUshr x0 1) 1431655765))) 2) 858993459))) 4))) 252645135) + (iUshr (iAnd (w32 ((w32 ((iAnd (w32 (x0 - (iAnd (iUshr x0 1) 1431655765))) 858993459) + (iAnd (iUshr (w32 (x0 - (iAnd (iUshr x0 1) 1431655765))) 2) 858993459))) + (iUshr (w32 ((iAnd (w32 (x0 - (iAnd (iUshr x0 1) 1431655765))) 858993459) + (iAnd (iUshr (w32 (x0 - (iAnd (iUshr x0 1) 1431655765))) 2) 858993459))) 4))) 252645135) 8))) 16))) 63)
theorem bcX_eq {x : Int} (hx : mk8 x) : bcX x = pc8 x := by
  obtain ⟨q, rfl⟩ : ∃ n : Nat, x = n := ⟨x.toNat, by unfold mk8 at hx; omega⟩
  have h2 : ∀ q : Fin 256, bcX (q.val : Int) = pc8 (q.val : Int) := by decide +kernel
  unfold mk8 at hx
  exact h2 ⟨q, by omega⟩
theorem s_bc {d : Nat} {x : Int} {m : jM} {Q : Int → jM → Prop} (hx : mk8 x) (h : Q (pc8 x) m) : jK (d + 1) zJ6_bitCount_0f7a4 [jI x] m Q := by
  refine gJ6_bitCount_0f7a4 d x m Q ?_
  rw [← bcX_eq hx] at h
  exact h
theorem pcn_nn (f : Int → Bool) (n : Nat) : 0 ≤ pcn f n ∧ pcn f n ≤ n := by
  induction n with
  | zero => simp [pcn]
  | succ n ih =>
    unfold pcn
    split <;> omega
theorem pc8_r (x : Int) : 0 ≤ pc8 x ∧ pc8 x ≤ 8 := pcn_nn _ 8
theorem pcn_ext {f g : Int → Bool} {n : Nat} (h : ∀ j : Int, 0 ≤ j → j < n → f j = g j) : pcn f n = pcn g n := by
  induction n with
  | zero => rfl
  | succ n ih =>
    unfold pcn
    rw [ih (fun j h1 h2 => h j h1 (by omega)), h n (by omega) (by omega)]
theorem pcn_add {f g : Int → Bool} {k : Int} {n : Nat} (hk : 0 ≤ k ∧ k < n) (hf : f k = false) (hg : ∀ j : Int, 0 ≤ j → j < n → g j = (f j || decide (j = k))) : pcn g n = pcn f n + 1 := by
  induction n with
  | zero => omega
  | succ n ih =>
    unfold pcn
    by_cases h : k = n
    · subst h
      rw [hg _ (by omega) (by omega), hf, pcn_ext (f := g) (g := f) (fun j h1 h2 => by rw [hg j h1 (by omega)]; simp; omega)]
      simp
    · rw [ih ⟨hk.1, by omega⟩ (fun j h1 h2 => hg j h1 (by omega)), hg _ (by omega) (by omega)]
      have : decide ((n : Int) = k) = false := by simp; omega
      rw [this, Bool.or_false]
      omega
theorem pc8_1 {x k : Int} (hk : 0 ≤ k ∧ k < 8) (h : bt x k = false) : pc8 (iOr x (iShl 1 k)) = pc8 x + 1 :=
  pcn_add hk h (fun j h1 h2 => by rw [bt_or, bt_one ⟨hk.1, by omega⟩ ⟨h1, by omega⟩])
theorem pc8_0 : pc8 0 = 0 := by decide

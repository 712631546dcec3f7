/-! least totals and their counts, over (cases left, judges taken) -/
def dpF : Int := 1125899906842624
def dpO (h : Int) (a b : Int) : Int := if h = 0 then a + b else max a b
def dpf (h : Int) (o : Int → Int → Bool) (b : Int → Int → Int) (T : Int → Int × Int) (c s : Int) : Nat → Int × Int
  | 0 => (dpF, 0)
  | n + 1 =>
    if bt s n = false ∧ o n c = true ∧ (T (iOr s (iShl 1 n))).1 ≠ dpF then
      (if dpO h (b n c) (T (iOr s (iShl 1 n))).1 < (dpf h o b T c s n).1 then (dpO h (b n c) (T (iOr s (iShl 1 n))).1, (T (iOr s (iShl 1 n))).2)
       else if dpO h (b n c) (T (iOr s (iShl 1 n))).1 = (dpf h o b T c s n).1 then ((dpf h o b T c s n).1, (dpf h o b T c s n).2 + (T (iOr s (iShl 1 n))).2)
       else dpf h o b T c s n)
    else dpf h o b T c s n
def dpt (h : Int) (o : Int → Int → Bool) (b : Int → Int → Int) (C : Int → Bool) : Nat → Int → Int × Int
  | 0, _ => (0, 1)
  | k + 1, s => if C (7 - k) = true then dpf h o b (dpt h o b C k) (7 - k) s 8 else dpt h o b C k s
def dpB (o : Int → Int → Bool) (b : Int → Int → Int) : Prop := ∀ j c : Int, 0 ≤ j → j < 8 → 0 ≤ c → c < 8 → o j c = true → 0 ≤ b j c ∧ b j c ≤ 1000000000
/-- bounds of a pair of least total and count -/
def dpR (k : Nat) (x : Int × Int) : Prop := ((0 ≤ x.1 ∧ x.1 ≤ 1000000000 * k) ∨ x.1 = dpF) ∧ 0 ≤ x.2 ∧ x.2 ≤ 8 ^ k
theorem dpO_r {h a b : Int} {k : Nat} (ha : 0 ≤ a ∧ a ≤ 1000000000) (hb : 0 ≤ b ∧ b ≤ 1000000000 * k) : 0 ≤ dpO h a b ∧ dpO h a b ≤ 1000000000 * (k + 1 : Nat) := by
  unfold dpO
  split <;> omega
theorem dpf_r {h : Int} {o : Int → Int → Bool} {b : Int → Int → Int} {T : Int → Int × Int} {c s : Int} {k : Nat} (hB : dpB o b) (hc : 0 ≤ c ∧ c < 8) (hs : mk8 s) (hT : ∀ s, mk8 s → dpR k (T s)) (n : Nat) (hn : n ≤ 8) :
    ((0 ≤ (dpf h o b T c s n).1 ∧ (dpf h o b T c s n).1 ≤ 1000000000 * (k + 1 : Nat)) ∨ (dpf h o b T c s n).1 = dpF) ∧ 0 ≤ (dpf h o b T c s n).2 ∧ (dpf h o b T c s n).2 ≤ n * 8 ^ k := by
  induction n with
  | zero => simp [dpf]
  | succ n ih =>
    have ih := ih (by omega)
    unfold dpf
    have h1 := hT (iOr s (iShl 1 n)) (mk_or1 hs ⟨by omega, by omega⟩)
    unfold dpR at h1
    have e8 : ((n + 1 : Nat) : Int) * 8 ^ k = n * 8 ^ k + 8 ^ k := by
      rw [Int.natCast_add, Int.add_mul]; simp
    rw [e8]
    generalize (8 : Int) ^ k = E at *
    generalize (n : Int) * E = E2 at *
    by_cases hg : bt s n = false ∧ o n c = true ∧ (T (iOr s (iShl 1 n))).1 ≠ dpF
    · have h2 := dpO_r (h := h) (k := k) (hB n c (by omega) (by omega) hc.1 hc.2 hg.2.1) (by rcases h1.1 with h | h; exact h; exact absurd h hg.2.2)
      rw [if_pos hg]
      split
      · exact ⟨Or.inl h2, by omega, by dsimp only; omega⟩
      · split
        · exact ⟨ih.1, by dsimp only; omega, by dsimp only; omega⟩
        · exact ⟨ih.1, by omega, by omega⟩
    · rw [if_neg hg]
      exact ⟨ih.1, by omega, by omega⟩
theorem dpt_r {h : Int} {o : Int → Int → Bool} {b : Int → Int → Int} {C : Int → Bool} (hB : dpB o b) (k : Nat) (hk : k ≤ 8) : ∀ s, mk8 s → dpR k (dpt h o b C k s) := by
  induction k with
  | zero => intro s _; simp [dpR, dpt]
  | succ k ih =>
    have ih := ih (by omega)
    intro s hs
    unfold dpt
    split
    · have h1 := dpf_r (h := h) hB (c := 7 - k) (by omega) hs ih 8 (by omega)
      refine ⟨h1.1, h1.2.1, ?_⟩
      rw [Int.pow_succ, Int.mul_comm]
      exact h1.2.2
    · have h1 := ih s hs
      unfold dpR at h1 ⊢
      have e : (8 : Int) ^ (k + 1) = 8 ^ k * 8 := Int.pow_succ 8 k
      have e2 : (0 : Int) ≤ 8 ^ k := Int.pow_nonneg (by omega)
      refine ⟨?_, h1.2.1, ?_⟩
      · rcases h1.1 with h | h
        · left; omega
        · right; exact h
      · rw [e]; omega
/-- cases that are not IN don't matter -/
theorem dpt_skip {h : Int} {o : Int → Int → Bool} {b : Int → Int → Int} {C : Int → Bool} {s : Int} (k e : Nat) (hk : k + e ≤ 8) (hC : ∀ c : Int, 8 - (k + e) ≤ c → c < 8 - k → C c = false) : dpt h o b C (k + e) s = dpt h o b C k s := by
  induction e with
  | zero => rfl
  | succ e ih =>
    rw [show k + (e + 1) = (k + e) + 1 by omega]
    have e1 : dpt h o b C (k + e + 1) s = if C (7 - ((k + e : Nat) : Int)) = true then dpf h o b (dpt h o b C (k + e)) (7 - ((k + e : Nat) : Int)) s 8 else dpt h o b C (k + e) s := rfl
    rw [e1, if_neg (by rw [hC (7 - ((k + e : Nat) : Int)) (by omega) (by omega)]; simp)]
    exact ih (by omega) (fun c h1 h2 => hC c (by omega) h2)
theorem dpt_pow {k : Nat} (hk : k ≤ 8) : (8 : Int) ^ k ≤ 16777216 := by
  have h2 : ∀ k : Fin 9, (8 : Int) ^ k.val ≤ 16777216 := by decide
  exact h2 ⟨k, by omega⟩

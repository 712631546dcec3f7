/-! rows lo .. hi - 1 are the tree at k, each used once -/
def uT (R : jM) : Nat → Int → Int → Int → Prop
  | 0, _, _, _ => False
  | n + 1, lo, hi, k => (lo ≤ k ∧ k < hi) ∧
    (((R 2 k = 0 ∨ R 2 k = 1 ∨ R 2 k = 2) ∧ k = lo ∧ hi = lo + 1) ∨
    ((R 2 k = 6 ∨ R 2 k = 7) ∧ k = lo ∧ uT R n (lo + 1) hi (R 4 k)) ∨
    ((3 ≤ R 2 k ∧ R 2 k ≤ 5) ∧ uT R n lo k (R 4 k) ∧ uT R n (k + 1) hi (R 5 k)) ∨
    ((8 ≤ R 2 k ∧ R 2 k ≤ 11) ∧ k = lo ∧ ∃ z, uT R n (lo + 1) z (R 4 k) ∧ uT R n z hi (R 5 k)) ∨
    (R 2 k = 12 ∧ ∃ y z, uT R n lo k (R 4 k) ∧ uT R n (k + 1) y (R 5 k) ∧ uT R n y z (R 6 k) ∧ uT R n z hi (R 7 k)))
theorem uT_lt {R : jM} {n : Nat} {lo hi k : Int} (h : uT R n lo hi k) : lo ≤ k ∧ k < hi := by
  cases n with
  | zero => exact h.elim
  | succ n => exact h.1
theorem uT_c {R R' : jM} (n : Nat) : ∀ {n' : Nat} {lo hi k : Int}, n ≤ n' → (∀ f j, 2 ≤ f → f ≤ 8 → lo ≤ j → j < hi → R' f j = R f j) → uT R n lo hi k → uT R' n' lo hi k := by
  induction n with
  | zero => intro n' lo hi k _ _ h; exact h.elim
  | succ n ih =>
    intro n' lo hi k hn hR h
    obtain ⟨n', rfl⟩ : ∃ e, n' = e + 1 := ⟨n' - 1, by omega⟩
    obtain ⟨⟨k1, k2⟩, h⟩ := h
    refine ⟨⟨k1, k2⟩, ?_⟩
    rw [hR 2 k (by omega) (by omega) k1 k2, hR 4 k (by omega) (by omega) k1 k2, hR 5 k (by omega) (by omega) k1 k2, hR 6 k (by omega) (by omega) k1 k2, hR 7 k (by omega) (by omega) k1 k2]
    rcases h with h | ⟨h, h1, h2⟩ | ⟨h, h1, h2⟩ | ⟨h, h1, z, h2, h3⟩ | ⟨h, y, z, h1, h2, h3, h4⟩
    · exact Or.inl h
    · exact Or.inr (Or.inl ⟨h, h1, ih (by omega) (fun f j a b c e => hR f j a b (by omega) e) h2⟩)
    · have t1 := uT_lt h1
      have t2 := uT_lt h2
      exact Or.inr (Or.inr (Or.inl ⟨h, ih (by omega) (fun f j a b c e => hR f j a b (by omega) (by omega)) h1, ih (by omega) (fun f j a b c e => hR f j a b (by omega) (by omega)) h2⟩))
    · have t2 := uT_lt h2
      have t3 := uT_lt h3
      exact Or.inr (Or.inr (Or.inr (Or.inl ⟨h, h1, z, ih (by omega) (fun f j a b c e => hR f j a b (by omega) (by omega)) h2, ih (by omega) (fun f j a b c e => hR f j a b (by omega) (by omega)) h3⟩)))
    · have t1 := uT_lt h1
      have t2 := uT_lt h2
      have t3 := uT_lt h3
      have t4 := uT_lt h4
      exact Or.inr (Or.inr (Or.inr (Or.inr ⟨h, y, z, ih (by omega) (fun f j a b c e => hR f j a b (by omega) (by omega)) h1, ih (by omega) (fun f j a b c e => hR f j a b (by omega) (by omega)) h2, ih (by omega) (fun f j a b c e => hR f j a b (by omega) (by omega)) h3, ih (by omega) (fun f j a b c e => hR f j a b (by omega) (by omega)) h4⟩)))
/-- in how many places from a on (n of them) the like stands -/
def cnt (P : Int → Bool) : Nat → Int → Int
  | 0, _ => 0
  | n + 1, a => (if P a = true then 1 else 0) + cnt P n (a + 1)
def cnr (P : Int → Bool) (a b : Int) : Int := cnt P (b - a).toNat a
theorem cnr_0 {P : Int → Bool} {a b : Int} (h : b ≤ a) : cnr P a b = 0 := by unfold cnr; rw [show (b - a).toNat = 0 by omega]; rfl
theorem cnr_s {P : Int → Bool} {a b : Int} (h : a < b) : cnr P a b = (if P a = true then 1 else 0) + cnr P (a + 1) b := by
  unfold cnr
  rw [show (b - a).toNat = (b - (a + 1)).toNat + 1 by omega]
  rfl
theorem cnr_1 {P : Int → Bool} {a : Int} : cnr P a (a + 1) = if P a = true then 1 else 0 := by rw [cnr_s (by omega), cnr_0 (Int.le_refl _)]; omega
theorem cnr_a {P : Int → Bool} (n : Nat) : ∀ {a b c : Int}, b - a = (n : Int) → b ≤ c → cnr P a c = cnr P a b + cnr P b c := by
  induction n with
  | zero => intro a b c h1 h2; rw [cnr_0 (a := a) (b := b) (by omega), show a = b by omega]; omega
  | succ n ih =>
    intro a b c h1 h2
    rw [cnr_s (a := a) (b := c) (by omega), cnr_s (a := a) (b := b) (by omega), ih (a := a + 1) (b := b) (c := c) (by omega) h2]
    omega
theorem cnr_j {P : Int → Bool} {a b c : Int} (h1 : a ≤ b) (h2 : b ≤ c) : cnr P a c = cnr P a b + cnr P b c := cnr_a (b - a).toNat (by omega) h2

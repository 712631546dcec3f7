/-! as many steps name a rule as rows do -/
theorem cT_cnt {R : jM} {so sa sp : Int → Int} {lo' hi' : Int} (q : Int) (N : Nat) : ∀ {n n' : Nat} {lo hi a b k : Int}, n ≤ N → uT R n lo hi k → cT R so sa sp lo' hi' n' a b k → cnr (fun i => decide (so i = 4 ∧ sa i = q)) a b = cnr (fun j => decide (R 2 j = 2 ∧ R 3 j = q)) lo hi := by
  induction N with
  | zero => intro n n' lo hi a b k hn h; rw [show n = 0 by omega] at h; exact h.elim
  | succ N ih =>
    intro n n' lo hi a b k hn hu hc
    cases n with
    | zero => exact hu.elim
    | succ n =>
    cases n' with
    | zero => exact hc.elim
    | succ n' =>
    obtain ⟨⟨k1, k2⟩, hu⟩ := hu
    obtain ⟨_, hc⟩ := hc
    have no : ∀ i, so i ≠ 4 → (if (fun i => decide (so i = 4 ∧ sa i = q)) i = true then (1 : Int) else 0) = 0 := by
      intro i hi
      rw [if_neg]
      simp only [decide_eq_true_eq]
      exact fun w => hi w.1
    have nr : ∀ j, R 2 j ≠ 2 → (if (fun j => decide (R 2 j = 2 ∧ R 3 j = q)) j = true then (1 : Int) else 0) = 0 := by
      intro i hi
      rw [if_neg]
      simp only [decide_eq_true_eq]
      exact fun w => hi w.1
    rcases hu with ⟨h, h1, h2⟩ | ⟨h, h1, h2⟩ | ⟨h, h1, h2⟩ | ⟨h, h1, z, h2, h3⟩ | ⟨h, y, z, h1, h2, h3, h4⟩
    · subst h1 h2
      rcases hc with ⟨c, c1, c2, c3, _⟩ | ⟨c, c1, c2, _⟩ | ⟨c, c1, c2, c3, _⟩ | ⟨c, _⟩ | ⟨c, _⟩ | ⟨c, _⟩ | ⟨c, _⟩
      · subst c1
        rw [cnr_1, cnr_1, no a (by omega), nr k (by omega)]
      · subst c1
        rw [cnr_1, cnr_1, no a (by omega), nr k (by omega)]
      · subst c1
        rw [cnr_1, cnr_1]
        simp only [decide_eq_true_eq, c, c2, c3]
      all_goals exfalso; omega
    · have hl := uT_lt h2
      have e1 := cnr_s (P := fun j => decide (R 2 j = 2 ∧ R 3 j = q)) (a := lo) (b := hi) (by omega)
      rw [nr lo (by rw [← h1]; omega)] at e1
      rcases hc with ⟨c, _⟩ | ⟨c, _⟩ | ⟨c, _⟩ | ⟨c, hc⟩ | ⟨c, hc, c2⟩ | ⟨c, _⟩ | ⟨c, _⟩
      · exfalso; omega
      · exfalso; omega
      · exfalso; omega
      · rcases hc with ⟨c1, c2⟩ | ⟨c0, c1, c2⟩
        · have hlt := cT_lt c1
          have w := ih (by omega) h2 c1
          rw [cnr_j (a := a) (b := b - 1) (c := b) (by omega) (by omega), w, e1, cnr_s (a := b - 1) (b := b) (by omega), no (b - 1) (by omega), cnr_0 (a := b - 1 + 1) (b := b) (by omega)]
          omega
        · cases n with
          | zero => exact h2.elim
          | succ n =>
          obtain ⟨_, h2⟩ := h2
          rcases h2 with ⟨g, _⟩ | ⟨g, g1, g2⟩ | ⟨g, _⟩ | ⟨g, _⟩ | ⟨g, _⟩
          · exfalso; omega
          · have hl2 := uT_lt g2
            have w := ih (by omega) g2 c2
            rw [w, e1, cnr_s (a := lo + 1) (b := hi) (by omega), nr (lo + 1) (by rw [← g1]; omega)]
            omega
          · exfalso; omega
          · exfalso; omega
          · exfalso; omega
      · have hlt := cT_lt hc
        have w := ih (by omega) h2 hc
        rw [cnr_j (a := a) (b := b - 1) (c := b) (by omega) (by omega), w, e1, cnr_s (a := b - 1) (b := b) (by omega), no (b - 1) (by omega), cnr_0 (a := b - 1 + 1) (b := b) (by omega)]
        omega
      · exfalso; omega
      · exfalso; omega
    · have l1 := uT_lt h1
      have l2 := uT_lt h2
      rcases hc with ⟨c, _⟩ | ⟨c, _⟩ | ⟨c, _⟩ | ⟨c, _⟩ | ⟨c, _⟩ | ⟨c, z, c1, c2, c3, _⟩ | ⟨c, _⟩
      case inr.inr.inr.inr.inr.inl =>
        have t1 := cT_lt c1
        have t2 := cT_lt c2
        have w1 := ih (by omega) h1 c1
        have w2 := ih (by omega) h2 c2
        rw [cnr_j (a := a) (b := z) (c := b) (by omega) (by omega), cnr_j (a := z) (b := b - 1) (c := b) (by omega) (by omega), w1, w2, cnr_s (a := b - 1) (b := b) (by omega), no (b - 1) (by rw [c3]; unfold cop; split <;> omega), cnr_0 (a := b - 1 + 1) (by omega), cnr_j (a := lo) (b := k) (c := hi) (by omega) (by omega), cnr_s (a := k) (b := hi) (by omega), nr k (by omega)]
        omega
      all_goals exfalso; omega
    · have l2 := uT_lt h2
      have l3 := uT_lt h3
      rcases hc with ⟨c, _⟩ | ⟨c, _⟩ | ⟨c, _⟩ | ⟨c, _⟩ | ⟨c, _⟩ | ⟨c, y, c1, c2, c3, _⟩ | ⟨c, _⟩
      case inr.inr.inr.inr.inr.inl =>
        have t1 := cT_lt c1
        have t2 := cT_lt c2
        have w1 := ih (by omega) h2 c1
        have w2 := ih (by omega) h3 c2
        rw [cnr_j (a := a) (b := y) (c := b) (by omega) (by omega), cnr_j (a := y) (b := b - 1) (c := b) (by omega) (by omega), w1, w2, cnr_s (a := b - 1) (b := b) (by omega), no (b - 1) (by rw [c3]; unfold cop; split <;> omega), cnr_0 (a := b - 1 + 1) (by omega), cnr_s (a := lo) (b := hi) (by omega), nr lo (by rw [← h1]; omega), cnr_j (a := lo + 1) (b := z) (c := hi) (by omega) (by omega)]
        omega
      all_goals exfalso; omega
    · have l1 := uT_lt h1
      have l2 := uT_lt h2
      have l3 := uT_lt h3
      have l4 := uT_lt h4
      rcases hc with ⟨c, _⟩ | ⟨c, _⟩ | ⟨c, _⟩ | ⟨c, _⟩ | ⟨c, _⟩ | ⟨c, _⟩ | ⟨c, x1, y1, z1, c1, c2, c3, _, c4, c5, _, c6⟩
      case inr.inr.inr.inr.inr.inr =>
        have t1 := cT_lt c1
        have t2 := cT_lt c2
        have t3 := cT_lt c4
        have t4 := cT_lt c6
        have w1 := ih (by omega) h1 c1
        have w2 := ih (by omega) h2 c2
        have w3 := ih (by omega) h3 c4
        have w4 := ih (by omega) h4 c6
        rw [cnr_j (a := a) (b := x1) (c := b) (by omega) (by omega), cnr_j (a := x1) (b := y1) (c := b) (by omega) (by omega), cnr_s (a := y1) (b := b) (by omega), no y1 (by omega), cnr_j (a := y1 + 1) (b := z1) (c := b) (by omega) (by omega), cnr_s (a := z1) (b := b) (by omega), no z1 (by omega), w1, w2, w3, w4, cnr_j (a := lo) (b := k) (c := hi) (by omega) (by omega), cnr_s (a := k) (b := hi) (by omega), nr k (by omega), cnr_j (a := k + 1) (b := y) (c := hi) (by omega) (by omega), cnr_j (a := y) (b := z) (c := hi) (by omega) (by omega)]
        omega
      all_goals exfalso; omega

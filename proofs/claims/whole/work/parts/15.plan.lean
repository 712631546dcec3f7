/-! the class's plan: listCases, canTake -/
/-- cases IN by number, before case n -/
def plL (p : Int) (m : jM) (i : Int) : Prop :=
  (m p 1 = pcn (bt (m p 0)) i.toNat) ∧ mk8 (m p 3) ∧ (∀ t : Int, 0 ≤ t → t < m p 1 → 0 ≤ m (p + 1) t ∧ m (p + 1) t < i ∧ bt (m p 0) (m (p + 1) t) = true ∧ pcn (bt (m p 0)) (m (p + 1) t).toNat = t) ∧
  (∀ j : Int, 0 ≤ j → j < 8 → (bt (m p 3) j = true ↔ ∃ c : Int, 0 ≤ c ∧ c < i ∧ bt (m p 0) c = true ∧ bt (m (p + 3) c) j = true))
theorem pcn_s (f : Int → Bool) (i : Int) (h : 0 ≤ i) : pcn f (i + 1).toNat = pcn f i.toNat + (if f i then 1 else 0) := by
  obtain ⟨n, rfl⟩ : ∃ n : Nat, i = n := ⟨i.toNat, by omega⟩
  rw [show ((n : Int) + 1).toNat = n + 1 by omega, Int.toNat_natCast]
  rfl
theorem s_listCases {d : Nat} {p : Int} {m : jM} {Q : Int → jM → Prop} (hr : ∀ c : Int, 0 ≤ c → c < 8 → mk8 (m (p + 3) c))
    (h : ∀ m' : jM, (∀ q, q ≠ p → q ≠ p + 1 → m' q = m q) → (∀ j, j ≠ 1 → j ≠ 3 → m' p j = m p j) → plL p m' 8 → Q 0 m') : jK (d + 1) zX4_listCases [jO 4 p] m Q := by
  have loop : ∀ (k : Nat) (i : Int) (m1 : jM), 0 ≤ i → i + k = 8 → (∀ q, q ≠ p → q ≠ p + 1 → m1 q = m q) → (∀ j, j ≠ 1 → j ≠ 3 → m1 p j = m p j) → plL p m1 i → aX4_listCases_12 d p i m1 Q := by
    intro k
    induction k with
    | zero =>
      intro i m1 h0 hi h1 h2 h3
      refine gX4_listCases_12 d p i _ Q ⟨fun q => by omega, fun _ => ?_⟩
      rw [show i = 8 by omega] at h3
      exact h _ h1 h2 h3
    | succ k ih =>
      intro i m1 h0 hi h1 h2 h3
      have e : w32 (i + 1) = i + 1 := w32_id (by omega) (by omega)
      obtain ⟨a1, a2, a3, a4⟩ := h3
      have hp := pcn_nn (bt (m1 p 0)) i.toNat
      refine gX4_listCases_12 d p i _ Q ⟨fun q => ⟨fun q2 => ⟨by omega, by omega, ?_⟩, fun q2 => ?_⟩, fun q => by omega⟩
      · rw [bt_get (by omega)] at q2
        have q3 : bt (m1 p 0) i = true := by revert q2; cases bt (m1 p 0) i <;> simp
        rw [e]
        have e2 : w32 (m1 p 1 + 1) = m1 p 1 + 1 := w32_id (by omega) (by omega)
        refine ih (i + 1) _ (by omega) (by omega) ?_ ?_ ?_
        · intro q g1 g2
          simp only [jUp_row, if_neg g1, if_neg g2]
          exact h1 q g1 g2
        · intro j g1 g2
          simp only [jUp_row, if_neg g1, if_neg g2, if_true, if_neg (show ¬ p = p + 1 by omega)]
          exact h2 j g1 g2
        · unfold plL
          simp only [jUp_row, if_true, if_neg (show ¬ p = p + 1 by omega), if_neg (show ¬ p + 1 = p by omega), if_neg (show ¬ p + 3 = p by omega), if_neg (show ¬ p + 3 = p + 1 by omega), reduceIte, Int.reduceEq, e2]
          refine ⟨?_, ?_, ?_, ?_⟩
          · rw [pcn_s _ _ h0, q3, a1]; simp
          · exact mk_or a2 (by rw [h1 (p + 3) (by omega) (by omega)]; exact hr i h0 (by omega))
          · intro t g1 g2
            by_cases g3 : t = m1 p 1
            · rw [if_pos g3, g3]
              exact ⟨h0, by omega, q3, a1.symm⟩
            · rw [if_neg g3]
              have := a3 t g1 (by omega)
              exact ⟨this.1, by omega, this.2.2⟩
          · intro j g1 g2
            rw [bt_or, Bool.or_eq_true, a4 j g1 g2]
            constructor
            · rintro (⟨c, b1, b2, b3, b4⟩ | g)
              · exact ⟨c, b1, by omega, b3, b4⟩
              · exact ⟨i, h0, by omega, q3, g⟩
            · rintro ⟨c, b1, b2, b3, b4⟩
              by_cases g : c = i
              · right; rw [← g]; exact b4
              · left; exact ⟨c, b1, by omega, b3, b4⟩
      · rw [bt_get (by omega)] at q2
        have q3 : bt (m1 p 0) i = false := by revert q2; cases bt (m1 p 0) i <;> simp
        rw [e]
        refine ih (i + 1) _ (by omega) (by omega) h1 h2 ⟨?_, a2, ?_, ?_⟩
        · rw [pcn_s _ _ h0, q3, a1]; simp
        · intro t g1 g2
          have := a3 t g1 g2
          exact ⟨this.1, by omega, this.2.2⟩
        · intro j g1 g2
          rw [a4 j g1 g2]
          constructor
          · rintro ⟨c, b1, b2, b3, b4⟩
            exact ⟨c, b1, by omega, b3, b4⟩
          · rintro ⟨c, b1, b2, b3, b4⟩
            have : c ≠ i := by rintro rfl; rw [q3] at b3; cases b3
            exact ⟨c, b1, by omega, b3, b4⟩
  refine gX4_listCases d p m Q ?_
  refine loop 8 0 _ (by omega) (by omega) ?_ ?_ ?_
  · intro q g1 g2
    simp only [jUp_row, if_neg g1]
  · intro j g1 g2
    simp only [jUp_row, if_true, if_neg g1, if_neg g2]
  · unfold plL
    simp only [jUp_row, if_true, reduceIte, Int.reduceEq]
    refine ⟨rfl, mk_0, fun t _ _ => by omega, fun j _ _ => ?_⟩
    rw [bt_0]
    constructor
    · intro g; cases g
    · rintro ⟨c, b1, b2, _⟩; omega

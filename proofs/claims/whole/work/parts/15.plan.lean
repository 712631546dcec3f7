/-! the class's plan: listCases, canTake -/
/-- cases IN by number, before case n -/
def plL (p : Int) (m : jM) (i : Int) : Prop :=
  (m p 1 = pcn (bt (m p 0)) i.toNat) ∧ mk8 (m p 3) ∧ (∀ t : Int, 0 ≤ t → t < m p 1 → 0 ≤ m (p + 1) t ∧ m (p + 1) t < i ∧ bt (m p 0) (m (p + 1) t) = true ∧ pcn (bt (m p 0)) (m (p + 1) t).toNat = t) ∧
  (∀ j : Int, 0 ≤ j → j < 8 → (bt (m p 3) j = true ↔ ∃ c : Int, 0 ≤ c ∧ c < i ∧ bt (m p 0) c = true ∧ bt (m (p + 3) c) j = true))
theorem pcn_s (f : Int → Bool) (i : Int) (h : 0 ≤ i) : pcn f (i + 1).toNat = pcn f i.toNat + (if f i then 1 else 0) := by
  obtain ⟨n, rfl⟩ : ∃ n : Nat, i = n := ⟨i.toNat, by omega⟩
  rw [show ((n : Int) + 1).toNat = n + 1 by omega, Int.toNat_natCast]
  rfl
theorem s_listCases {d : Nat} {p : Int} {m : jM} {Q : Int → jM → Prop} (hr : ∀ c : Int, 0 ≤ c → c < 8 → mk8 (m (p + 3) c))
    (h : ∀ m' : jM, (∀ q, q ≠ p → q ≠ p + 1 → m' q = m q) → (∀ j, j ≠ 1 → j ≠ 3 → m' p j = m p j) → plL p m' 8 → Q 0 m') : jK (d + 1) zX4_listCases [jO 4 p] m Q := by
  have loop : ∀ (k : Nat) (i : Int) (m1 : jM), 0 ≤ i → i + k = 8 → (∀ q, q ≠ p → q ≠ p + 1 → m1 q = m q) → (∀ j, j ≠ 1 → j ≠ 3 → m1 p j = m p j) → plL p m1 i → aX4_listCases_12 d p i m1 Q := by
    intro k
    induction k with
    | zero =>
      intro i m1 h0 hi h1 h2 h3
      refine gX4_listCases_12 d p i _ Q ⟨fun q => by omega, fun _ => ?_⟩
      rw [show i = 8 by omega] at h3
      exact h _ h1 h2 h3
    | succ k ih =>
      intro i m1 h0 hi h1 h2 h3
      have e : w32 (i + 1) = i + 1 := w32_id (by omega) (by omega)
      obtain ⟨a1, a2, a3, a4⟩ := h3
      have hp := pcn_nn (bt (m1 p 0)) i.toNat
      refine gX4_listCases_12 d p i _ Q ⟨fun q => ⟨fun q2 => ⟨by omega, by omega, ?_⟩, fun q2 => ?_⟩, fun q => by omega⟩
      · rw [bt_get (by omega)] at q2
        have q3 : bt (m1 p 0) i = true := by revert q2; cases bt (m1 p 0) i <;> simp
        rw [e]
        have e2 : w32 (m1 p 1 + 1) = m1 p 1 + 1 := w32_id (by omega) (by omega)
        refine ih (i + 1) _ (by omega) (by omega) ?_ ?_ ?_
        · intro q g1 g2
          simp only [jUp_row, if_neg g1, if_neg g2]
          exact h1 q g1 g2
        · intro j g1 g2
          simp only [jUp_row, if_neg g1, if_neg g2, if_true, if_neg (show ¬ p = p + 1 by omega)]
          exact h2 j g1 g2
        · unfold plL
          simp only [jUp_row, if_true, if_neg (show ¬ p = p + 1 by omega), if_neg (show ¬ p + 1 = p by omega), if_neg (show ¬ p + 3 = p by omega), if_neg (show ¬ p + 3 = p + 1 by omega), reduceIte, Int.reduceEq, e2]
          refine ⟨?_, ?_, ?_, ?_⟩
          · rw [pcn_s _ _ h0, q3, a1]; simp
          · exact mk_or a2 (by rw [h1 (p + 3) (by omega) (by omega)]; exact hr i h0 (by omega))
          · intro t g1 g2
            by_cases g3 : t = m1 p 1
            · rw [if_pos g3, g3]
              exact ⟨h0, by omega, q3, a1.symm⟩
            · rw [if_neg g3]
              have := a3 t g1 (by omega)
              exact ⟨this.1, by omega, this.2.2⟩
          · intro j g1 g2
            rw [bt_or, Bool.or_eq_true, a4 j g1 g2]
            constructor
            · rintro (⟨c, b1, b2, b3, b4⟩ | g)
              · exact ⟨c, b1, by omega, b3, b4⟩
              · exact ⟨i, h0, by omega, q3, g⟩
            · rintro ⟨c, b1, b2, b3, b4⟩
              by_cases g : c = i
              · right; rw [← g]; exact b4
              · left; exact ⟨c, b1, by omega, b3, b4⟩
      · rw [bt_get (by omega)] at q2
        have q3 : bt (m1 p 0) i = false := by revert q2; cases bt (m1 p 0) i <;> simp
        rw [e]
        refine ih (i + 1) _ (by omega) (by omega) h1 h2 ⟨?_, a2, ?_, ?_⟩
        · rw [pcn_s _ _ h0, q3, a1]; simp
        · intro t g1 g2
          have := a3 t g1 g2
          exact ⟨this.1, by omega, this.2.2⟩
        · intro j g1 g2
          rw [a4 j g1 g2]
          constructor
          · rintro ⟨c, b1, b2, b3, b4⟩
            exact ⟨c, b1, by omega, b3, b4⟩
          · rintro ⟨c, b1, b2, b3, b4⟩
            have : c ≠ i := by rintro rfl; rw [q3] at b3; cases b3
            exact ⟨c, b1, by omega, b3, b4⟩
  refine gX4_listCases d p m Q ?_
  refine loop 8 0 _ (by omega) (by omega) ?_ ?_ ?_
  · intro q g1 g2
    simp only [jUp_row, if_neg g1]
  · intro j g1 g2
    simp only [jUp_row, if_true, if_neg g1, if_neg g2]
  · unfold plL
    simp only [jUp_row, if_true, reduceIte, Int.reduceEq]
    refine ⟨rfl, mk_0, fun t _ _ => by omega, fun j _ _ => ?_⟩
    rw [bt_0]
    constructor
    · intro g; cases g
    · rintro ⟨c, b1, b2, _⟩; omega
theorem bs_iff {x y : Int} (hx : mk8 x) : iAnd x (iXor y (-1)) = 0 ↔ ∀ j : Int, 0 ≤ j → j < 8 → bt x j = true → bt y j = true := by
  constructor
  · intro e j h1 h2 h3
    have := congrArg (fun z => bt z j) e
    simp only [bt_and, bt_xor, bt_0, bt_ones (show 0 ≤ j ∧ j < 32 by omega), h3, Bool.true_and, Bool.xor_true] at this
    revert this; cases bt y j <;> simp
  · intro h
    refine mk_ext (mk_andl hx) mk_0 (fun j h1 h2 => ?_)
    rw [bt_and, bt_xor, bt_0, bt_ones (by omega)]
    have := h j h1 h2
    revert this; cases bt x j <;> cases bt y j <;> simp
theorem s_canTake {d : Nat} {p x : Int} {m : jM} {Q : Int → jM → Prop} (h : Q (bI (iAnd x (iXor (m p 3) (-1)) = 0)) m) : jK (d + 1) zX4_canTake [jO 4 p, jI x] m Q := by
  refine gX4_canTake d p x m Q ⟨fun q => ?_, fun q => ?_⟩
  · rw [bI_t q] at h; exact h
  · rw [bI_f q] at h; exact h
def toN (v : Int) : Int := if v = dpF then -4611686018427387904 else v
theorem toN_F : toN dpF = -4611686018427387904 := if_pos rfl
theorem toN_n {v : Int} (h : v ≠ dpF) : toN v = v := if_neg h
theorem toN_no {k : Nat} {x : Int × Int} (h : dpR k x) : toN x.1 = -4611686018427387904 ↔ x.1 = dpF := by
  unfold toN
  constructor
  · intro g
    split at g
    · assumption
    · unfold dpR at h; unfold dpF at h; unfold dpF at *; omega
  · intro g; rw [if_pos g]
theorem bt_free {r s j : Int} (hj : 0 ≤ j ∧ j < 32) : iAnd (iShr (iAnd r (iXor s (-1))) j) 1 = if (bt r j = true ∧ bt s j = false) then 1 else 0 := by
  rw [bt_get hj, bt_and, bt_xor, bt_ones hj]
  cases bt r j <;> cases bt s j <;> simp
/-- rows of judges by cases; burdens by pairs -/
def pO (w : Int → Int) (j c : Int) : Bool := bt (w c) j
def rB (w : Int → Int) (j c : Int) : Int := w (8 * j + c)
theorem dpf_s (h : Int) (o : Int → Int → Bool) (b : Int → Int → Int) (T : Int → Int × Int) (c s : Int) (n : Nat) : dpf h o b T c s (n + 1) = if bt s n = false ∧ o n c = true ∧ (T (iOr s (iShl 1 n))).1 ≠ dpF then
      (if dpO h (b n c) (T (iOr s (iShl 1 n))).1 < (dpf h o b T c s n).1 then (dpO h (b n c) (T (iOr s (iShl 1 n))).1, (T (iOr s (iShl 1 n))).2)
       else if dpO h (b n c) (T (iOr s (iShl 1 n))).1 = (dpf h o b T c s n).1 then ((dpf h o b T c s n).1, (dpf h o b T c s n).2 + (T (iOr s (iShl 1 n))).2)
       else dpf h o b T c s n)
    else dpf h o b T c s n := rfl
theorem s_weighFrom {d : Nat} {p s c h : Int} {m : jM} {T : Int → Int × Int} {k : Nat} {Q : Int → jM → Prop} (hk : k ≤ 7) (hs : mk8 s) (hc : 0 ≤ c ∧ c < 8) (hB : dpB (pO (m (p + 3))) (rB (m (p + 2))))
    (hT : ∀ s, mk8 s → dpR k (T s))
    (hv : ∀ j : Int, 0 ≤ j → j < 8 → pO (m (p + 3)) j c = true → bt s j = false → m (p + 4) (iOr s (iShl 1 j)) = toN (T (iOr s (iShl 1 j))).1 ∧ m (p + 5) (iOr s (iShl 1 j)) = (T (iOr s (iShl 1 j))).2)
    (hQ : Q 0 (jUp (jUp m (p + 4) s (toN (dpf h (pO (m (p + 3))) (rB (m (p + 2))) T c s 8).1)) (p + 5) s (dpf h (pO (m (p + 3))) (rB (m (p + 2))) T c s 8).2)) :
    jK (d + 2) zX4_weighFrom [jO 4 p, jI s, jI c, jI h] m Q := by
  refine gX4_weighFrom (d + 1) p s c h m Q ⟨by omega, ?_⟩
  have h8 : (8 : Int) ^ k ≤ 16777216 := dpt_pow (by omega)
  have h80 : (0 : Int) ≤ 8 ^ k := Int.pow_nonneg (by omega)
  have loop : ∀ (n i : Nat) (D : Int × Int), i + n = 8 → D = dpf h (pO (m (p + 3))) (rB (m (p + 2))) T c s i → aX4_weighFrom_23 (d + 1) p s c h (toN D.1) D.2 (iAnd (m (p + 3) c) (iXor s (-1))) i m Q := by
    intro n
    induction n with
    | zero =>
      intro i D hi hD
      refine gX4_weighFrom_23 (d + 1) p s c h _ _ _ i m Q ⟨fun q => by omega, fun _ => ⟨hs, hs, ?_⟩⟩
      rw [hD, show i = 8 by omega]
      exact hQ
    | succ n ih =>
      intro i D hi hD
      have ih := fun D' h => ih (i + 1) D' (by omega) h
      have e1 : w32 ((i : Int) + 1) = ((i + 1 : Nat) : Int) := by rw [w32_id (by omega) (by omega)]; rfl
      have e2 : w32 (w32 ((i : Int) * 8) + c) = 8 * i + c := by rw [w32_id (z := (i : Int) * 8) (by omega) (by omega), w32_id (by omega) (by omega)]; omega
      have r1 := dpf_r (h := h) (T := T) (s := s) (k := k) hB hc hs hT i (by omega)
      have rT := hT (iOr s (iShl 1 i)) (mk_or1 hs ⟨by omega, by omega⟩)
      have hor : 0 ≤ iOr s (iShl 1 (i : Int)) ∧ iOr s (iShl 1 (i : Int)) < 256 := mk_or1 hs ⟨by omega, by omega⟩
      have hsu := dpf_s h (pO (m (p + 3))) (rB (m (p + 2))) T c s i
      rw [← hD] at hsu r1
      have hfree := bt_free (r := m (p + 3) c) (s := s) (j := i) (by omega)
      by_cases hg : bt s i = false ∧ pO (m (p + 3)) i c = true ∧ (T (iOr s (iShl 1 i))).1 ≠ dpF
      · rw [if_pos hg] at hsu
        obtain ⟨g1, g2, g3⟩ := hg
        have hv1 := hv i (by omega) (by omega) g2 g1
        rw [toN_n g3] at hv1
        have hB1 := hB i c (by omega) (by omega) hc.1 hc.2 g2
        have hR1 := rT.1
        have hR2 := rT.2
        generalize T (iOr s (iShl 1 (i : Int))) = X at *
        obtain ⟨x1, x2⟩ := X
        obtain ⟨d1, d2⟩ := D
        dsimp only at *
        have hx : 0 ≤ x1 ∧ x1 ≤ 1000000000 * k := by rcases hR1 with g | g; exact g; exact absurd g g3
        have rB1 : rB (m (p + 2)) i c = m (p + 2) (8 * i + c) := rfl
        rw [rB1] at hB1
        have e4 : w64 (m (p + 2) (8 * i + c) + x1) = m (p + 2) (8 * i + c) + x1 := w64_id (by omega) (by omega)
        have key : ∀ y : Int, y = dpO h (rB (m (p + 2)) i c) x1 →
            ((toN d1 = -4611686018427387904 ∨ y < toN d1) → aX4_weighFrom_131 (d + 1) p s c h y 0 (iAnd (m (p + 3) c) (iXor s (-1))) i (iOr s (iShl 1 i)) y m Q) ∧
            (¬ toN d1 = -4611686018427387904 → ¬ y < toN d1 → aX4_weighFrom_131 (d + 1) p s c h (toN d1) d2 (iAnd (m (p + 3) c) (iXor s (-1))) i (iOr s (iShl 1 i)) y m Q) := by
          intro y hy
          have hyr : 0 ≤ y ∧ y ≤ 8000000000 := by
            rw [hy, rB1]; unfold dpO; split <;> omega
          have hdr : ¬ d1 = dpF → 0 ≤ d1 := fun g => by rcases r1.1 with h | h; exact h.1; exact absurd h g
          have hF : dpF = 1125899906842624 := rfl
          rw [← hy] at hsu
          refine ⟨fun g => ?_, fun g5 g6 => ?_⟩
          · refine gX4_weighFrom_131 (d + 1) p s c h _ _ _ _ _ _ m Q ⟨fun _ => ⟨hor, ?_⟩, fun g => absurd rfl g⟩
            have : y < d1 := by
              unfold toN at g
              split at g
              · omega
              · omega
            rw [if_pos this] at hsu
            rw [hv1.2, e1, show w32 (0 + x2) = x2 from by rw [w32_id (by omega) (by omega)]; omega]
            have := ih (y, x2) hsu.symm
            rw [show toN (y, x2).1 = y from toN_n (by dsimp only; omega)] at this
            exact this
          · have hn : d1 ≠ dpF := by intro g; rw [g] at g5; exact g5 toN_F
            rw [toN_n hn] at g5 g6 ⊢
            rw [if_neg g6] at hsu
            have e8 : 8 * (8 : Int) ^ k ≤ 134217728 := by omega
            have e9 : (i : Int) * 8 ^ k ≤ 8 * 8 ^ k := Int.mul_le_mul_of_nonneg_right (by omega) h80
            refine gX4_weighFrom_131 (d + 1) p s c h _ _ _ _ _ _ m Q ⟨fun g => ⟨hor, ?_⟩, fun g => ?_⟩
            · rw [if_pos g] at hsu
              rw [hv1.2, e1, w32_id (by omega) (by omega)]
              have := ih (d1, d2 + x2) hsu.symm
              rw [show toN (d1, d2 + x2).1 = d1 from toN_n hn] at this
              exact this
            · rw [if_neg g] at hsu
              rw [e1, w32_id (by omega) (by omega), Int.add_zero]
              have := ih (d1, d2) hsu.symm
              rw [show toN (d1, d2).1 = d1 from toN_n hn] at this
              exact this
        have hno : ¬ x1 = -4611686018427387904 := by omega
        refine gX4_weighFrom_23 (d + 1) p s c h _ _ _ i m Q ⟨fun q => ⟨fun q2 => ?_, fun q2 => ⟨hor, fun q3 => ?_, fun q3 => ⟨by rw [e2]; omega, ?_, ?_⟩⟩⟩, fun q => by omega⟩
        · rw [hfree] at q2
          rw [if_pos ⟨g2, g1⟩] at q2
          omega
        · rw [hv1.1] at q3; exact absurd q3 hno
        · intro q4
          subst q4
          rw [e2, hv1.1, e4]
          have ky := key (m (p + 2) (8 * i + c) + x1) (by unfold dpO; rw [if_pos rfl]; rfl)
          exact ⟨fun q5 => ky.1 (Or.inl q5), fun q5 => ⟨fun q6 => ky.1 (Or.inr q6), fun q6 => ky.2 q5 q6⟩⟩
        · intro q4
          rw [e2, hv1.1]
          have ky := key (max (m (p + 2) (8 * i + c)) x1) (by unfold dpO; rw [if_neg q4]; rfl)
          exact s_max ⟨fun q5 => ky.1 (Or.inl q5), fun q5 => ⟨fun q6 => ky.1 (Or.inr q6), fun q6 => ky.2 q5 q6⟩⟩
      · rw [if_neg hg] at hsu
        have nx := ih D hsu.symm
        rw [← e1] at nx
        refine gX4_weighFrom_23 (d + 1) p s c h _ _ _ i m Q ⟨fun q => ⟨fun q2 => nx, fun q2 => ⟨hor, fun q3 => nx, fun q3 => ?_⟩⟩, fun q => by omega⟩
        rw [hfree] at q2
        have q4 : bt (m (p + 3) c) i = true ∧ bt s i = false := by
          apply Decidable.byContradiction; intro g; rw [if_neg g] at q2; exact q2 rfl
        rw [(hv i (by omega) (by omega) q4.1 q4.2).1, toN_no rT] at q3
        exact absurd ⟨q4.2, q4.1, q3⟩ hg
  have := loop 8 0 (dpF, 0) rfl rfl
  exact this

/-! weights of rules -/
def wtE (P nm W : Int → Int) (r : Int) : Int := P r + nm (4 * r + 0) * W 0 + nm (4 * r + 1) * W 1 + nm (4 * r + 2) * W 2 + nm (4 * r + 3) * W 3
def wtW (P nm W : Int → Int) : Prop := ∀ r : Int, 0 ≤ r → r < 4 → W r = w32 (wtE P nm W r)
def nmN (nm : Int → Int) : Prop := ∀ r q : Int, 0 ≤ r → r < 4 → 0 ≤ q → q < 4 → 0 ≤ nm (4 * r + q)
theorem wtE_c {P nm W W' : Int → Int} {r : Int} (hnn : ∀ q : Int, 0 ≤ q → q < 4 → 0 ≤ nm (4 * r + q)) (h : ∀ q : Int, 0 ≤ q → q < 4 → 0 < nm (4 * r + q) → W q = W' q) : wtE P nm W r = wtE P nm W' r := by
  have t : ∀ q : Int, 0 ≤ q → q < 4 → nm (4 * r + q) * W q = nm (4 * r + q) * W' q := by
    intro q q1 q2
    by_cases g : 0 < nm (4 * r + q)
    · rw [h q q1 q2 g]
    · have := hnn q q1 q2
      rw [show nm (4 * r + q) = 0 by omega, Int.zero_mul, Int.zero_mul]
  unfold wtE
  rw [t 0 (by omega) (by omega), t 1 (by omega) (by omega), t 2 (by omega) (by omega), t 3 (by omega) (by omega)]
def wtf (P nm : Int → Int) : Nat → Int → Int
  | 0, _ => 0
  | n + 1, r => w32 (wtE P nm (wtf P nm n) r)
theorem wt_st {P nm rk : Int → Int} (hk : rkO nm rk) (nn : nmN nm) (n : Nat) : ∀ r : Int, 0 ≤ r → r < 4 → rk r < n → wtf P nm (n + 1) r = wtf P nm n r := by
  induction n with
  | zero => intro r r1 r2 h; have := (hk.1 r r1 r2).1; omega
  | succ n ih =>
    intro r r1 r2 h
    show w32 (wtE P nm (wtf P nm (n + 1)) r) = w32 (wtE P nm (wtf P nm n) r)
    rw [wtE_c (nn r · r1 r2) (fun q q1 q2 g => ih q q1 q2 (by have := hk.2 r q r1 r2 q1 q2 g; omega))]
theorem wt_ex {P nm rk : Int → Int} (hk : rkO nm rk) (nn : nmN nm) : wtW P nm (wtf P nm 4) := by
  intro r r1 r2
  show w32 (wtE P nm (wtf P nm 3) r) = w32 (wtE P nm (wtf P nm 4) r)
  rw [wtE_c (W := wtf P nm 3) (W' := wtf P nm 4) (nn r · r1 r2) (fun q q1 q2 g => (wt_st hk nn 3 q q1 q2 (by have := hk.2 r q r1 r2 q1 q2 g; have := (hk.1 r r1 r2).2; omega)).symm)]
theorem w32_a (a b : Int) : w32 (w32 a + b) = w32 (a + b) := by unfold w32; omega
theorem w32_a2 (a b : Int) : w32 (w32 a + w32 b) = w32 (a + b) := by unfold w32; omega
theorem cnr_e {P : Int → Bool} {i : Int} (h : 0 ≤ i) : cnr P 0 (i + 1) = cnr P 0 i + (if P i = true then 1 else 0) := by
  rw [cnr_j (b := i) h (by omega), cnr_1]
theorem s_weightBy {d : Nat} {nm : Int → Int} {p r y : Int} {m : jM} {Q : Int → jM → Prop} (hn : ruN nm m p r) (hp : 0 ≤ m p 0 ∧ m p 0 ≤ 24) (hQ : Q (w32 (wtE (fun _ => m p 0) nm (m y) r)) m) : jK (d + 1) zX6_weightBy [jO 6 p, jY 0 4 y] m Q := by
  obtain ⟨n1, n2, n3⟩ := hn
  generalize hc : (fun q i => cnr (fun i => decide (m (p + 1) i = 4 ∧ m (p + 2) i = q)) 0 i) = c at *
  have ec : ∀ q i, cnr (fun i => decide (m (p + 1) i = 4 ∧ m (p + 2) i = q)) 0 i = c q i := fun q i => by rw [← hc]
  have cs : ∀ q i, 0 ≤ i → c q (i + 1) = c q i + (if m (p + 1) i = 4 ∧ m (p + 2) i = q then 1 else 0) := by
    intro q i h
    rw [← ec, ← ec, cnr_e h]
    simp only [decide_eq_true_eq]
  have c0 : ∀ q, c q 0 = 0 := fun q => by rw [← ec, cnr_0 (by omega)]
  have loop : ∀ (k : Nat) (i : Int), 0 ≤ i → i + k = m p 1 → aX6_weightBy_7 d p 4 y (w32 (m p 0 + c 0 i * m y 0 + c 1 i * m y 1 + c 2 i * m y 2 + c 3 i * m y 3)) i m Q := by
    intro k
    induction k with
    | zero =>
      intro i h0 hi
      refine gX6_weightBy_7 d p 4 y _ i m Q ⟨fun q => by omega, fun _ => ?_⟩
      have e : i = m p 1 := by omega
      subst e
      have h := hQ
      unfold wtE at h
      rw [n3 0 (by omega) (by omega), n3 1 (by omega) (by omega), n3 2 (by omega) (by omega), n3 3 (by omega) (by omega), ec, ec, ec, ec] at h
      exact h
    | succ k ih =>
      intro i h0 hi
      have n := ih (i + 1) (by omega) (by omega)
      rw [cs 0 i h0, cs 1 i h0, cs 2 i h0, cs 3 i h0, Int.add_mul, Int.add_mul, Int.add_mul, Int.add_mul] at n
      refine gX6_weightBy_7 d p 4 y _ i m Q ⟨fun q => ⟨by omega, fun g => ?_, fun g => ?_⟩, fun q => by omega⟩
      · have ha := n2 i h0 q g
        refine ⟨by omega, ha, ?_⟩
        rw [w32_id (z := i + 1) (by omega) (by omega), w32_a]
        have h4 : m (p + 2) i = 0 ∨ m (p + 2) i = 1 ∨ m (p + 2) i = 2 ∨ m (p + 2) i = 3 := by omega
        rcases h4 with e | e | e | e <;> rw [e] at n ⊢ <;> simp only [g, true_and] at n <;> simp at n
        · rw [show m p 0 + c 0 i * m y 0 + c 1 i * m y 1 + c 2 i * m y 2 + c 3 i * m y 3 + m y 0 = m p 0 + (c 0 i * m y 0 + m y 0) + c 1 i * m y 1 + c 2 i * m y 2 + c 3 i * m y 3 by omega]; exact n
        · rw [show m p 0 + c 0 i * m y 0 + c 1 i * m y 1 + c 2 i * m y 2 + c 3 i * m y 3 + m y 1 = m p 0 + c 0 i * m y 0 + (c 1 i * m y 1 + m y 1) + c 2 i * m y 2 + c 3 i * m y 3 by omega]; exact n
        · rw [show m p 0 + c 0 i * m y 0 + c 1 i * m y 1 + c 2 i * m y 2 + c 3 i * m y 3 + m y 2 = m p 0 + c 0 i * m y 0 + c 1 i * m y 1 + (c 2 i * m y 2 + m y 2) + c 3 i * m y 3 by omega]; exact n
        · rw [show m p 0 + c 0 i * m y 0 + c 1 i * m y 1 + c 2 i * m y 2 + c 3 i * m y 3 + m y 3 = m p 0 + c 0 i * m y 0 + c 1 i * m y 1 + c 2 i * m y 2 + (c 3 i * m y 3 + m y 3) by omega]; exact n
      · rw [w32_id (z := i + 1) (by omega) (by omega)]
        simp only [g, false_and] at n
        simp at n
        exact n
  refine gX6_weightBy d p 4 y m Q ?_
  have := loop (m p 1).toNat 0 (by omega) (by omega)
  rw [c0, c0, c0, c0, Int.zero_mul, Int.zero_mul, Int.zero_mul, Int.zero_mul, w32_id (by omega) (by omega)] at this
  simpa using this
theorem ruN_c {nm : Int → Int} {m m' : jM} {p r : Int} (h0 : m' p = m p) (h1 : m' (p + 1) = m (p + 1)) (h2 : m' (p + 2) = m (p + 2)) (h : ruN nm m p r) : ruN nm m' p r := by
  unfold ruN at h ⊢
  rw [h0, h1, h2]
  exact h
theorem s_weighRules {d : Nat} {P nm W rk : Int → Int} {m : jM} {Q : Int → jM → Prop} (hk : rkO nm rk) (hW : wtW P nm W) (nn : nmN nm) (hN : ∀ q : Int, 0 ≤ q → q < 4 → ruN nm m (m 5 q) q ∧ m (m 5 q) 0 = P q ∧ (0 ≤ P q ∧ P q ≤ 24) ∧ 7 ≤ m 5 q)
    (hQ : ∀ m', (∀ q, q ≠ 6 → m' q = m q) → (∀ r : Int, 0 ≤ r → r < 4 → m' 6 r = W r) → Q 0 m') : jK (d + 2) zX0_weighRules [jO 0 1] m Q := by
  have l2 : ∀ (k : Nat) (a i : Int) (m1 : jM), 0 ≤ i → i + k = 4 → (∀ q, q ≠ 6 → m1 q = m q) → (∀ r : Int, 0 ≤ r → r < 4 → rk r < a → m1 6 r = W r) → (∀ r : Int, 0 ≤ r → r < i → rk r ≤ a → m1 6 r = W r) →
      (∀ m2, (∀ q, q ≠ 6 → m2 q = m q) → (∀ r : Int, 0 ≤ r → r < 4 → rk r ≤ a → m2 6 r = W r) → aX0_weighRules_10 (d + 1) (w32 (a + 1)) m2 Q) → aX0_weighRules_17 (d + 1) a i m1 Q := by
    intro k
    induction k with
    | zero =>
      intro a i m1 h0 hi hf hlo hup hc
      refine gX0_weighRules_17 (d + 1) a i m1 Q ⟨fun q => by omega, fun _ => hc m1 hf (fun r r1 r2 h => hup r r1 (by omega) h)⟩
    | succ k ih =>
      intro a i m1 h0 hi hf hlo hup hc
      obtain ⟨b1, b2, b3, b4⟩ := hN i h0 (by omega)
      have e5 : m1 5 = m 5 := hf 5 (by omega)
      refine gX0_weighRules_17 (d + 1) a i m1 Q ⟨fun q => ⟨by omega, ?_⟩, fun q => by omega⟩
      rw [e5]
      have ep : m1 (m 5 i) = m (m 5 i) := hf _ (by omega)
      refine s_weightBy (r := i) (ruN_c ep (hf _ (by omega)) (hf _ (by omega)) b1) (by rw [ep, b2]; exact b3) ⟨by omega, ?_⟩
      rw [w32_id (z := i + 1) (by omega) (by omega)]
      refine ih a (i + 1) _ (by omega) (by omega) (fun q hq => by rw [up_ne hq]; exact hf q hq) ?_ ?_ hc
      all_goals
        have key : rk i ≤ a → w32 (wtE (fun _ => m1 (m 5 i) 0) nm (m1 6) i) = W i := by
          intro hr
          rw [hW i h0 (by omega)]
          have e1 : wtE (fun _ => m1 (m 5 i) 0) nm (m1 6) i = wtE P nm (m1 6) i := by unfold wtE; rw [ep, b2]
          rw [e1, wtE_c (W := m1 6) (W' := W) (fun q q1 q2 => nn i q h0 (by omega) q1 q2) (fun q q1 q2 g => hlo q q1 q2 (by have := hk.2 i q h0 (by omega) q1 q2 g; omega))]
        intro r r1 r2 h
        by_cases hri : r = i
        · rw [hri] at h ⊢
          rw [up_same]
          exact key (by omega)
        · rw [up_oth hri]
          first | exact hlo r r1 r2 h | exact hup r r1 (by omega) h
  have l1 : ∀ (k : Nat) (a : Int) (m1 : jM), 0 ≤ a → a + k = 4 → (∀ q, q ≠ 6 → m1 q = m q) → (∀ r : Int, 0 ≤ r → r < 4 → rk r < a → m1 6 r = W r) → aX0_weighRules_10 (d + 1) a m1 Q := by
    intro k
    induction k with
    | zero =>
      intro a m1 h0 hi hf hlo
      exact gX0_weighRules_10 (d + 1) a m1 Q ⟨fun q => by omega, fun _ => hQ m1 hf (fun r r1 r2 => hlo r r1 r2 (by have := (hk.1 r r1 r2).2; omega))⟩
    | succ k ih =>
      intro a m1 h0 hi hf hlo
      refine gX0_weighRules_10 (d + 1) a m1 Q ⟨fun q => l2 4 a 0 m1 (by omega) (by omega) hf hlo (fun r r1 r2 => by omega) (fun m2 f2 h2 => ?_), fun q => by omega⟩
      rw [w32_id (by omega) (by omega)]
      exact ih (a + 1) m2 (by omega) (by omega) f2 (fun r r1 r2 h => h2 r r1 r2 (by omega))
  refine gX0_weighRules (d + 1) m Q (s_fillI (by omega) ?_)
  refine l1 4 0 _ (by omega) (by omega) (fun q hq => ?_) (fun r r1 r2 h => by have := (hk.1 r r1 r2).1; omega)
  funext j
  unfold jFil
  rw [if_neg (by omega)]
theorem s_weightR {d : Nat} {P W rk : Int → Int} {m : jM} (hk : rkO (m 110) rk) (hW : wtW P (m 110) W) (nn : nmN (m 110)) (hP : ∀ r : Int, 0 ≤ r → r < 4 → m 108 r = P r ∧ (0 ≤ P r ∧ P r ≤ 24)) (n : Nat) : ∀ (r : Int) (Q : Int → jM → Prop), 0 ≤ r → r < 4 → rk r < n → Q (W r) m → jK (d + n) zX11_weight [jO 11 103, jI r] m Q := by
  induction n with
  | zero => intro r Q r1 r2 h; have := (hk.1 r r1 r2).1; omega
  | succ n ih =>
    intro r Q r1 r2 h hQ
    have step : ∀ i z : Int, 0 ≤ i → i < 4 → aX11_weight_9 (d + n) r (w32 (z + m 110 (4 * r + i) * W i)) (i + 1) m Q → aX11_weight_9 (d + n) r (w32 z) i m Q := by
      intro i z i1 i2 hn
      have e : w32 (w32 (4 * r) + i) = 4 * r + i := by rw [w32_id (z := 4 * r) (by omega) (by omega), w32_id (by omega) (by omega)]
      refine gX11_weight_9 (d + n) r (w32 z) i m Q ⟨fun q => ?_, fun q => by omega⟩
      rw [e, w32_id (z := i + 1) (by omega) (by omega)]
      refine ⟨by omega, fun g => ⟨by omega, ?_⟩, fun g => ?_⟩
      · refine ih i _ i1 i2 (by have := hk.2 r i r1 r2 i1 i2 g; omega) ?_
        rw [w32_a2]
        exact hn
      · have := nn r i r1 r2 i1 i2
        rw [show m 110 (4 * r + i) = 0 by omega, Int.zero_mul, Int.add_zero] at hn
        exact hn
    refine gX11_weight (d + n) r m Q ⟨by omega, ?_⟩
    have e0 : m 108 r = w32 (P r) := by rw [(hP r r1 r2).1, w32_id (by have := (hP r r1 r2).2; omega) (by have := (hP r r1 r2).2; omega)]
    rw [e0]
    refine step 0 _ (by omega) (by omega) (step 1 _ (by omega) (by omega) (step 2 _ (by omega) (by omega) (step 3 _ (by omega) (by omega) ?_)))
    refine gX11_weight_9 (d + n) r _ _ m Q ⟨fun q => by omega, fun _ => ?_⟩
    have := hW r r1 r2
    unfold wtE at this
    rw [← this]
    exact hQ
theorem s_isHeavy {d : Nat} {P W rk : Int → Int} {m : jM} {Q : Int → jM → Prop} (hk : rkO (m 110) rk) (hW : wtW P (m 110) W) (nn : nmN (m 110)) (hP : ∀ r : Int, 0 ≤ r → r < 4 → m 108 r = P r ∧ (0 ≤ P r ∧ P r ≤ 24)) (hT : (∃ r : Int, 0 ≤ r ∧ r < 4 ∧ 60 < W r) → Q 1 m) (hF : (∀ r : Int, 0 ≤ r → r < 4 → ¬ 60 < W r) → Q 0 m) : jK (d + 5) zX11_isHeavy [jO 11 103] m Q := by
  have loop : ∀ (k : Nat) (i : Int), 0 ≤ i → i + k = 4 → (∀ r : Int, 0 ≤ r → r < i → ¬ 60 < W r) → aX11_isHeavy_2 (d + 4) i m Q := by
    intro k
    induction k with
    | zero =>
      intro i h0 hi hn
      exact gX11_isHeavy_2 (d + 4) i m Q ⟨fun q => by omega, fun _ => hF (fun r r1 r2 => hn r r1 (by omega))⟩
    | succ k ih =>
      intro i h0 hi hn
      refine gX11_isHeavy_2 (d + 4) i m Q ⟨fun q => ?_, fun q => by omega⟩
      refine s_weightR hk hW nn hP 4 i _ h0 (by omega) (by have := (hk.1 i h0 (by omega)).2; omega) ⟨fun g => hT ⟨i, h0, by omega, g⟩, fun g => ?_⟩
      rw [w32_id (by omega) (by omega)]
      refine ih (i + 1) (by omega) (by omega) (fun r r1 r2 => ?_)
      by_cases hri : r = i
      · rw [hri]; exact g
      · exact hn r r1 (by omega)
  exact gX11_isHeavy (d + 4) m Q (loop 4 0 (by omega) (by omega) (fun r r1 r2 => by omega))
theorem s_refusalOf {d : Nat} {P nm : Int → Int} {r0 : Int} {m : jM} {Q : Int → jM → Prop} (hr : 0 ≤ r0 ∧ r0 < 4) (nn : nmN nm) (hN : ∀ q : Int, 0 ≤ q → q < 4 → ruN nm m (m 5 q) q ∧ m (m 5 q) 0 = P q ∧ (0 ≤ P q ∧ P q ≤ 24) ∧ 7 ≤ m 5 q)
    (hring : bt (cto (nmk nm) r0) r0 = true → Q (-5) m) (hno : ¬ bt (cto (nmk nm) r0) r0 = true → ∃ rk W, rkO nm rk ∧ wtW P nm W ∧ ((∃ r : Int, 0 ≤ r ∧ r < 4 ∧ 60 < W r) → ∀ m', (∀ q, q ≠ 6 → m' q = m q) → Q (-4) m') ∧ ((∀ r : Int, 0 ≤ r → r < 4 → ¬ 60 < W r) → ∀ m', (∀ q, q ≠ 6 → m' q = m q) → Q 0 m')) : jK (d + 3) zX0_refusalOf [jO 0 1, jI r0] m Q := by
  refine gX0_refusalOf (d + 2) r0 m Q (s_reachOf hr (fun q q1 q2 => (hN q q1 q2).1) ⟨fun g => ?_, fun g => ?_⟩) <;> rw [bt_shr (by omega)] at g
  · exact hring g
  · obtain ⟨rk, W, k1, k2, k3, k4⟩ := hno g
    refine s_weighRules k1 k2 nn hN (fun m1 f1 w1 => ?_)
    have loop : ∀ (k : Nat) (i : Int), 0 ≤ i → i + k = 4 → (∀ r : Int, 0 ≤ r → r < i → ¬ 60 < W r) → aX0_refusalOf_22 (d + 2) i m1 Q := by
      intro k
      induction k with
      | zero =>
        intro i h0 hi hn
        exact gX0_refusalOf_22 (d + 2) i m1 Q ⟨fun q => by omega, fun _ => k4 (fun r r1 r2 => hn r r1 (by omega)) m1 f1⟩
      | succ k ih =>
        intro i h0 hi hn
        refine gX0_refusalOf_22 (d + 2) i m1 Q ⟨fun q => ⟨by omega, fun g => ?_, fun g => ?_⟩, fun q => by omega⟩ <;> rw [w1 i h0 (by omega)] at g
        · exact k3 ⟨i, h0, by omega, g⟩ m1 f1
        · rw [w32_id (by omega) (by omega)]
          refine ih (i + 1) (by omega) (by omega) (fun r r1 r2 => ?_)
          by_cases hri : r = i
          · rw [hri]; exact g
          · exact hn r r1 (by omega)
    exact loop 4 0 (by omega) (by omega) (fun r r1 r2 => by omega)

/-! burden, value, why -/
theorem rF39_q {m m' : jM} (h : rF39 m m') : rQt m m' := ⟨fun q a _ _ => h.1 q a, fun j _ => h.2 j (by omega)⟩
theorem cFr_q {m m' : jM} (h : Inv m) (f : cFr m m') : Inv m' ∧ cQt m m' := ⟨Inv_cq h (fun q _ a => f q (by omega) (by omega) (by omega)) (f 0 (by omega) (by omega) (by omega)), ⟨fun q a b => f q (by omega) (by omega) (by omega), fun j _ => by rw [f 0 (by omega) (by omega) (by omega)]⟩⟩
theorem c_burden {d : Nat} {j c : Int} {m : jM} {Q : Int → jM → Prop} (h : Inv m) (hd : 20 ≤ d) (hB : ¬ pr8 j c → Q (-4611686018427387904) m) (hQ : pr8 j c → ∀ m', Inv m' → cQt m m' → Q (if rBu m' j c = -1 then -4611686018427387904 else rBu m' j c) m') : jK d zX10_burden [jO 10 0, jI j, jI c] m Q := by
  refine jK_deep (show 19 + 1 ≤ d by omega) (gX10_burden 19 j c m Q (s_isPairC ⟨fun g => ?_, fun g => ?_⟩))
  · rw [bI_0] at g; exact hB g
  · rw [bI_0, Classical.not_not] at g
    rw [w32_id (z := j * 8) (by omega) (by omega), w32_id (by omega) (by omega), show j * 8 + c = 8 * j + c by omega]
    obtain ⟨rk, hk⟩ := Inv_cOk h
    refine jK_deep (show 0 + 11 ≤ 19 by omega) (s_burdenC hk (by omega) (fun m1 f1 => ?_) (h.2.2.1 _ (by omega) (by omega)).2.1)
    obtain ⟨h1, q1⟩ := cFr_q h f1
    have := hQ g m1 h1 q1
    rw [rBu_q (fun q a b => f1 q (by omega) (by omega) (by omega))] at this
    rw [show (8 * j + c) / 8 = j by omega, show (8 * j + c) % 8 = c by omega, Inv_bu h (by omega) (by omega) (by omega) (by omega)]
    exact this
theorem q_burden {d : Nat} {j c : Int} {m : jM} {Q : Int → jM → Prop} (h : Inv m) (hd : 320 ≤ d) (hB : ¬ pr8 j c → Q (-4611686018427387904) m) (hQ : pr8 j c → ∀ m', rQt m m' → Q (if rBu m j c = -1 then -4611686018427387904 else rBu m j c) m') : jK d zX11_burden [jO 11 103, jI j, jI c] m Q := by
  refine jK_deep (show 319 + 1 ≤ d by omega) (gX11_burden 319 j c m Q (s_isPair ⟨fun g => ?_, fun g => ?_⟩))
  · rw [bI_0] at g; exact hB g
  · rw [bI_0, Classical.not_not] at g
    refine jK_deep (show 0 + 305 ≤ 319 by omega) (s_burdenR (Inv_rROk h) (Inv_tbd h).2 (by omega) (by omega) (fun m1 f1 => ?_))
    have := hQ g m1 (rF39_q f1)
    refine ⟨fun w => ?_, fun w => ?_⟩
    · rw [if_pos w] at this; exact this
    · rw [if_neg w] at this; exact this
def vGv (m : jM) (r j c : Int) : vR := gVal (rG m) (m 105) j c r
theorem vGv_b {m : jM} (h : Inv m) {r j c : Int} (r1 : 0 ≤ r) (r2 : r < 4) (j1 : 0 ≤ j) (j2 : j < 8) (c1 : 0 ≤ c) (c2 : c < 8) : bnd (vGv m r j c).1 := gVal_b (Inv_tbd h).2 ⟨j1, j2⟩ ⟨c1, c2⟩ (Inv_rROk h r r1 r2)
theorem vGv_q {m m' : jM} (h : ∀ q, 105 ≤ q → q ≤ 117 → m' q = m q) (r j c : Int) : vGv m' r j c = vGv m r j c := by
  unfold vGv
  rw [rG_q (fun q a b => h q (by omega) b), h 105 (by omega) (by omega)]
/-- the class reads a rule at a pair -/
theorem c_read {d : Nat} {r j c : Int} {m : jM} {Q : Int → jM → Prop} (h : Inv m) (hd : 10 ≤ d) (hr : 0 ≤ r ∧ r < 4) (g : pr8 j c) (ho : ∀ m', Inv m' → cQt m m' → (vGv m' r j c).2.1 = 0 → Q (vGv m' r j c).1 m') (hf : ∀ m', Inv m' → cQt m m' → (vGv m' r j c).2.1 ≠ 0 → cFl (vGv m' r j c) 0 m m' → Q (-4611686018427387904) m') : jK d zX9_tellBy [jO 9 51, jO 0 1, jI r, jI (8 * j + c)] m Q := by
  unfold pr8 at g
  obtain ⟨rk, hk⟩ := Inv_cOk h
  obtain ⟨k1, k2, k3⟩ := hk
  have e : gVal (rG m) (m 2) ((8 * j + c) / 8) ((8 * j + c) % 8) r = vGv m r j c := by
    rw [show (8 * j + c) / 8 = j by omega, show (8 * j + c) % 8 = c by omega]
    exact gVal_t (fun x x1 x2 => (h.2.1 x x1 x2).1.symm) (by omega) (by omega) (Inv_rROk h r hr.1 hr.2)
  refine jK_deep (show 0 + 2 * 3 + 3 + 1 ≤ d by omega) (s_tellBy (s_read 0 k1 3 hr (by omega) (Int.le_refl 0) (by omega) (k1.1 r hr.1 hr.2).2 k3 k2 (fun m1 z f1 _ _ => ?_) (fun m1 z f1 _ _ fl => ?_))) <;> rw [e] at z
  · obtain ⟨h1, q1⟩ := cFr_q h f1
    have := ho m1 h1 q1
    rw [vGv_q (fun q a b => f1 q (by omega) (by omega) (by omega))] at this
    rw [e]
    exact this z
  · obtain ⟨h1, q1⟩ := cFr_q h f1
    have := hf m1 h1 q1
    rw [vGv_q (fun q a b => f1 q (by omega) (by omega) (by omega))] at this
    rw [e] at fl
    exact this z fl
theorem q_asked {d : Nat} {r j c : Int} {m : jM} {Q : Int → jM → Prop} (h : Inv m) (hd : 304 ≤ d) (hr : 0 ≤ r ∧ r < 4) (g : pr8 j c) (hQ : ∀ m' v, rQt m m' → rVs (vGv m r j c) v m' → Q v m') : jK d zX11_asked [jO 11 103, jI r, jI j, jI c] m Q := by
  unfold pr8 at g
  exact jK_deep (show 0 + 304 ≤ d by omega) (s_asked (Inv_rROk h) (Inv_tbd h).2 hr (by omega) (by omega) (fun m' v f1 w => hQ m' v (rF39_q f1) w))
theorem s_isRule {d : Nat} {a : Int} {m : jM} {Q : Int → jM → Prop} (h : Q (bI (0 ≤ a ∧ a ≤ 3)) m) : jK (d + 1) zX10_isRule [jI a] m Q := by
  refine gX10_isRule d a m Q ⟨fun q => ?_, fun q => ⟨fun q2 => ?_, fun q2 => ?_⟩⟩
  · rw [bI_f (by omega)] at h; exact h
  · rw [bI_t (by omega)] at h; exact h
  · rw [bI_f (by omega)] at h; exact h
noncomputable def vVl (m : jM) (r j c : Int) : Int := if (vGv m r j c).2.1 = 0 then (vGv m r j c).1 else -4611686018427387904
theorem c_value {d : Nat} {r j c : Int} {m : jM} {Q : Int → jM → Prop} (h : Inv m) (hd : 20 ≤ d) (hB : ¬ ((0 ≤ r ∧ r ≤ 3) ∧ pr8 j c) → Q (-4611686018427387904) m) (hQ : ((0 ≤ r ∧ r ≤ 3) ∧ pr8 j c) → ∀ m', Inv m' → cQt m m' → Q (vVl m' r j c) m') : jK d zX10_value [jO 10 0, jI r, jI j, jI c] m Q := by
  refine jK_deep (show 19 + 1 ≤ d by omega) (gX10_value 19 r j c m Q (s_isRule ⟨fun g => ?_, fun g => s_isPairC ⟨fun g2 => ?_, fun g2 => ?_⟩⟩))
  · rw [bI_0] at g; exact hB (fun x => g x.1)
  · rw [bI_0] at g2; exact hB (fun x => g2 x.2)
  · rw [bI_0, Classical.not_not] at g g2
    rw [w32_id (z := j * 8) (by omega) (by omega), w32_id (by omega) (by omega), show j * 8 + c = 8 * j + c by omega]
    refine c_read h (by omega) (by omega) g2 (fun m1 h1 q1 z => ?_) (fun m1 h1 q1 z _ => ?_)
    · have := hQ ⟨g, g2⟩ m1 h1 q1
      unfold vVl at this
      rw [if_pos z] at this
      exact this
    · have := hQ ⟨g, g2⟩ m1 h1 q1
      unfold vVl at this
      rw [if_neg z] at this
      exact this
theorem q_value {d : Nat} {r j c : Int} {m : jM} {Q : Int → jM → Prop} (h : Inv m) (hd : 320 ≤ d) (hB : ¬ ((0 ≤ r ∧ r ≤ 3) ∧ pr8 j c) → Q (-4611686018427387904) m) (hQ : ((0 ≤ r ∧ r ≤ 3) ∧ pr8 j c) → ∀ m', rQt m m' → Q (vVl m r j c) m') : jK d zX11_value [jO 11 103, jI r, jI j, jI c] m Q := by
  refine jK_deep (show 319 + 1 ≤ d by omega) (gX11_value 319 r j c m Q (s_in ⟨fun g => ?_, fun g => s_isPair ⟨fun g2 => ?_, fun g2 => ?_⟩⟩))
  · rw [bI_0] at g; exact hB (fun x => g x.1)
  · rw [bI_0] at g2; exact hB (fun x => g2 x.2)
  · rw [bI_0, Classical.not_not] at g g2
    refine q_asked h (by omega) (by omega) g2 (fun m1 v q1 w => ?_)
    have := hQ ⟨g, g2⟩ m1 q1
    unfold vVl at this
    rw [w.1]
    refine ⟨fun z => ?_, fun z => ?_⟩
    · rw [if_pos z] at this; rw [w.2.1 z]; exact this
    · rw [if_neg z] at this; exact this
def vWy (m : jM) (j c w : Int) : Int := if (vGv m 0 j c).2.1 = 0 then (if w = 0 then 0 else -1) else if w = 0 then (vGv m 0 j c).2.1 else if w = 1 then (vGv m 0 j c).2.2.1 else if w = 2 then (vGv m 0 j c).2.2.2.1 else if w = 3 then (vGv m 0 j c).2.2.2.2.1 else (vGv m 0 j c).2.2.2.2.2
theorem c_why {d : Nat} {j c w : Int} {m : jM} {Q : Int → jM → Prop} (h : Inv m) (hd : 20 ≤ d) (hB : ¬ (pr8 j c ∧ 0 ≤ w ∧ w ≤ 4) → Q (-2) m) (hQ : (pr8 j c ∧ 0 ≤ w ∧ w ≤ 4) → ∀ m', Inv m' → cQt m m' → Q (vWy m' j c w) m') : jK d zX10_why [jO 10 0, jI j, jI c, jI w] m Q := by
  refine jK_deep (show 19 + 1 ≤ d by omega) (gX10_why 19 j c w m Q (s_isPairC ⟨fun g => ?_, fun g => ⟨fun g2 => hB (by omega), fun g2 => ⟨fun g3 => hB (by omega), fun g3 => ?_⟩⟩⟩))
  · rw [bI_0] at g; exact hB (fun x => g x.1)
  · rw [bI_0, Classical.not_not] at g
    have gg : pr8 j c ∧ 0 ≤ w ∧ w ≤ 4 := ⟨g, by omega, by omega⟩
    rw [w32_id (z := j * 8) (by omega) (by omega), w32_id (by omega) (by omega), show j * 8 + c = 8 * j + c by omega]
    refine c_read h (by omega) (by omega) g (fun m1 h1 q1 z => ?_) (fun m1 h1 q1 z fl => ?_)
    · have hb := vGv_b h1 (r := 0) (j := j) (c := c) (by omega) (by omega) (by omega) (by omega) (by omega) (by omega)
      unfold bnd at hb
      have := hQ gg m1 h1 q1
      unfold vWy at this
      rw [if_pos z] at this
      refine ⟨fun x => by omega, fun _ => ⟨fun _ => ⟨fun x => ?_, fun x => ?_⟩, fun x => absurd rfl x⟩⟩
      · rw [if_pos x] at this; exact this
      · rw [if_neg x] at this; exact this
    · have := hQ gg m1 h1 q1
      unfold vWy at this
      rw [if_neg z] at this
      obtain ⟨l1, l2, l3, l4, l5⟩ := fl
      refine ⟨fun _ => ⟨fun x => absurd x (by omega), fun _ => ⟨fun x => ?_, fun x => ?_, fun x => ?_, fun x => ?_, fun x => ?_, trivial⟩⟩, fun x => absurd rfl x⟩
      · rw [if_pos (by omega)] at this; rw [l1]; exact this
      · rw [if_neg (by omega), if_pos (by omega)] at this; rw [l2]; exact this
      · rw [if_neg (by omega), if_neg (by omega), if_pos (by omega)] at this; rw [l3, Int.zero_add]; exact this
      · rw [if_neg (by omega), if_neg (by omega), if_neg (by omega), if_pos (by omega)] at this; rw [l4]; exact this
      · rw [if_neg (by omega), if_neg (by omega), if_neg (by omega), if_neg (by omega)] at this
        rw [l5]
        by_cases hc : (vGv m1 0 j c).2.2.2.1 = 1
        · rw [if_pos hc, if_neg (by omega)]
          have : (vGv m1 0 j c).2.2.2.2.2 = -1 := by
            unfold vGv gVal at z hc ⊢
            by_cases hp : rG m1 0 0 0 = 0
            · rw [if_pos hp] at z; exact absurd rfl z
            · rw [if_neg hp] at z hc ⊢
              exact (ev_a1 _ _ _ _ 100 _ _ z hc).1
          rw [← this]
          assumption
        · rw [if_neg hc]; exact this
theorem q_why {d : Nat} {j c w : Int} {m : jM} {Q : Int → jM → Prop} (h : Inv m) (hd : 320 ≤ d) (hB : ¬ (pr8 j c ∧ 0 ≤ w ∧ w ≤ 4) → Q (-2) m) (hQ : (pr8 j c ∧ 0 ≤ w ∧ w ≤ 4) → ∀ m', rQt m m' → Q (vWy m j c w) m') : jK d zX11_why [jO 11 103, jI j, jI c, jI w] m Q := by
  refine jK_deep (show 319 + 1 ≤ d by omega) (gX11_why 319 j c w m Q (s_isPair ⟨fun g => ?_, fun g => s_in ⟨fun g2 => ?_, fun g2 => ?_⟩⟩))
  · rw [bI_0] at g; exact hB (fun x => g x.1)
  · rw [bI_0] at g2; exact hB (fun x => g2 x.2)
  · rw [bI_0, Classical.not_not] at g g2
    refine q_asked h (by omega) (by omega) g (fun m1 v q1 x => ?_)
    have := hQ ⟨g, g2⟩ m1 q1
    unfold vWy at this
    rw [x.1]
    by_cases z : (vGv m 0 j c).2.1 = 0
    · rw [if_pos z] at this
      refine ⟨fun w0 => ?_, fun w0 => ⟨fun _ => ?_, fun y => absurd z y⟩⟩
      · rw [if_pos w0] at this; rw [z]; exact this
      · rw [if_neg w0] at this; exact this
    · rw [if_neg z] at this
      obtain ⟨l1, l2, l3, l4⟩ := x.2.2 z
      refine ⟨fun w0 => ?_, fun w0 => ⟨fun y => absurd y z, fun _ => ⟨fun w1 => ?_, fun w1 => ⟨fun w2 => ?_, fun w2 => ⟨fun w3 => ?_, fun w3 => ?_⟩⟩⟩⟩⟩
      · rw [if_pos w0] at this; exact this
      · rw [if_neg w0, if_pos w1] at this; rw [l1]; exact this
      · rw [if_neg w0, if_neg w1, if_pos w2] at this; rw [l2]; exact this
      · rw [if_neg w0, if_neg w1, if_neg w2, if_pos w3] at this; rw [l3]; exact this
      · rw [if_neg w0, if_neg w1, if_neg w2, if_neg w3] at this; rw [l4]; exact this
/-! round, price -/
theorem s_isSheetR {d : Nat} {a : Int} {m : jM} {Q : Int → jM → Prop} (h : Q (bI (0 ≤ a ∧ a ≤ 3)) m) : jK (d + 2) zX11_isSheet [jI a] m Q := by
  refine gX11_isSheet (d + 1) a m Q (s_in ?_)
  rw [if_pos]
  · exact h
  · unfold bI; split <;> simp
theorem s_isSheetC {d : Nat} {a : Int} {m : jM} {Q : Int → jM → Prop} (h : Q (bI (0 ≤ a ∧ a ≤ 3)) m) : jK (d + 1) zX10_isSheet [jI a] m Q := by
  refine gX10_isSheet d a m Q ⟨fun q => ?_, fun q => ⟨fun q2 => ?_, fun q2 => ?_⟩⟩
  · rw [bI_f (by omega)] at h; exact h
  · rw [bI_t (by omega)] at h; exact h
  · rw [bI_f (by omega)] at h; exact h
theorem c_round {d : Nat} {i w : Int} {m : jM} {Q : Int → jM → Prop} (h : Inv m) (hd : 20 ≤ d) (hB : ¬ ((0 ≤ i ∧ i < m 75 0) ∧ 0 ≤ w ∧ w ≤ 5) → Q (-4611686018427387904) m) (hQ : ((0 ≤ i ∧ i < m 75 0) ∧ 0 ≤ w ∧ w ≤ 5) → Q (m 76 (6 * i + w)) m) : jK d zX10_round [jO 10 0, jI i, jI w] m Q := by
  have hr := h.2.2.2.2.2.2.2.1.2.1
  refine jK_deep (show 19 + 1 ≤ d by omega) (gX10_round 19 i w m Q ⟨fun g => hB (by omega), fun g => ⟨fun g2 => ⟨fun g3 => hB (by omega), fun g3 => ⟨fun g4 => ?_, fun g4 => hB (by omega)⟩⟩, fun g2 => hB (by omega)⟩⟩)
  rw [w32_id (z := i * 6) (by omega) (by omega), w32_id (by omega) (by omega), show i * 6 + w = 6 * i + w by omega]
  exact ⟨by omega, hQ (by omega)⟩
theorem q_round {d : Nat} {i w : Int} {m : jM} {Q : Int → jM → Prop} (h : Inv m) (hd : 20 ≤ d) (hB : ¬ ((0 ≤ i ∧ i < m 75 0) ∧ 0 ≤ w ∧ w ≤ 5) → Q (-4611686018427387904) m) (hQ : ((0 ≤ i ∧ i < m 75 0) ∧ 0 ≤ w ∧ w ≤ 5) → Q (m 76 (6 * i + w)) m) : jK d zX11_round [jO 11 103, jI i, jI w] m Q := by
  obtain ⟨e50, hr, ha⟩ := h.2.2.2.2.2.2.2.1
  refine jK_deep (show 19 + 1 ≤ d by omega) (gX11_round 19 i w m Q (s_in ⟨fun g => ?_, fun g => s_in ⟨fun g2 => ?_, fun g2 => ?_⟩⟩))
  · rw [bI_0, e50, w32_id (by omega) (by omega)] at g; exact hB (by omega)
  · rw [bI_0] at g2; exact hB (fun x => g2 x.2)
  · rw [bI_0, Classical.not_not] at g g2
    rw [e50, w32_id (by omega) (by omega)] at g
    obtain ⟨a0, a1, a2, a3, a4, a5, _⟩ := ha i g.1 (by omega)
    have hq := hQ ⟨⟨g.1, by omega⟩, g2⟩
    refine ⟨fun w0 => ⟨by omega, ?_⟩, fun w0 => ⟨fun w1 => ⟨by omega, ?_⟩, fun w1 => ⟨fun w2 => ⟨by omega, ?_⟩, fun w2 => ⟨fun w3 => ⟨by omega, by omega, by omega, ?_⟩, fun w3 => ⟨fun w4 => ⟨by omega, ?_⟩, fun w4 => ⟨by omega, ?_⟩⟩⟩⟩⟩⟩
    · rw [w0, Int.add_zero, a0] at hq; exact hq
    · rw [w1, a1] at hq; exact hq
    · rw [w2, a2] at hq; exact hq
    · rw [w3, a3] at hq; exact hq
    · rw [w4, a4] at hq; exact hq
    · rw [show w = 5 by omega, a5] at hq; exact hq
theorem c_price {d : Nat} {i s w : Int} {m : jM} {Q : Int → jM → Prop} (h : Inv m) (hd : 20 ≤ d) (hB : ¬ ((0 ≤ i ∧ i < m 75 0) ∧ (0 ≤ s ∧ s ≤ 1) ∧ 0 ≤ w ∧ w ≤ 7) → Q (-4611686018427387904) m) (hQ : ((0 ≤ i ∧ i < m 75 0) ∧ (0 ≤ s ∧ s ≤ 1) ∧ 0 ≤ w ∧ w ≤ 7) → Q (m 77 (16 * i + (8 * s + w))) m) : jK d zX10_price [jO 10 0, jI i, jI s, jI w] m Q := by
  have hr := h.2.2.2.2.2.2.2.1.2.1
  refine jK_deep (show 19 + 1 ≤ d by omega) (gX10_price 19 i s w m Q (s_isSide ⟨fun g => ?_, fun g => s_isSeat ⟨fun g2 => ?_, fun g2 => ⟨fun g3 => hB (by omega), fun g3 => ⟨fun g4 => ?_, fun g4 => hB (by omega)⟩⟩⟩⟩))
  · rw [bI_0] at g; exact hB (fun x => g x.2.1)
  · rw [bI_0] at g2; exact hB (fun x => g2 x.2.2)
  · rw [bI_0, Classical.not_not] at g g2
    rw [w32_id (z := i * 2) (by omega) (by omega), w32_id (z := i * 2 + s) (by omega) (by omega), w32_id (z := (i * 2 + s) * 8) (by omega) (by omega), w32_id (by omega) (by omega), show (i * 2 + s) * 8 + w = 16 * i + (8 * s + w) by omega]
    exact ⟨by omega, hQ ⟨by omega, g, g2⟩⟩
theorem q_price {d : Nat} {i s w : Int} {m : jM} {Q : Int → jM → Prop} (h : Inv m) (hd : 20 ≤ d) (hB : ¬ ((0 ≤ i ∧ i < m 75 0) ∧ (0 ≤ s ∧ s ≤ 1) ∧ 0 ≤ w ∧ w ≤ 7) → Q (-4611686018427387904) m) (hQ : ((0 ≤ i ∧ i < m 75 0) ∧ (0 ≤ s ∧ s ≤ 1) ∧ 0 ≤ w ∧ w ≤ 7) → Q (m 77 (16 * i + (8 * s + w))) m) : jK d zX11_price [jO 11 103, jI i, jI s, jI w] m Q := by
  obtain ⟨e50, hr, ha⟩ := h.2.2.2.2.2.2.2.1
  refine jK_deep (show 19 + 1 ≤ d by omega) (gX11_price 19 i s w m Q (s_in ⟨fun g => ?_, fun g => s_isWho ⟨fun g2 => ?_, fun g2 => ?_⟩⟩))
  · rw [bI_0, e50, w32_id (by omega) (by omega)] at g; exact hB (by omega)
  · rw [bI_0] at g2; exact hB (fun x => g2 x.2)
  · rw [bI_0, Classical.not_not] at g g2
    rw [e50, w32_id (by omega) (by omega)] at g
    obtain ⟨_, _, _, _, _, _, a6⟩ := ha i g.1 (by omega)
    have hq := hQ ⟨⟨g.1, by omega⟩, g2⟩
    rw [w32_id (z := 2 * i) (by omega) (by omega), w32_id (z := 2 * i + s) (by omega) (by omega), w32_id (z := (2 * i + s) * 8) (by omega) (by omega), w32_id (by omega) (by omega), show (2 * i + s) * 8 + w = 16 * i + (8 * s + w) by omega]
    rw [a6 (8 * s + w) (by omega) (by omega)] at hq
    exact ⟨by omega, hq⟩

/-! calls that only ask: what they leave alone; costs and least totals -/
def rQt (m m' : jM) : Prop := (∀ q, q ≠ 103 → ¬ (119 ≤ q ∧ q ≤ 137) → ¬ (144 ≤ q ∧ q ≤ 148 ∧ q ≠ 146) → m' q = m q) ∧ ∀ j, j = 16 ∨ j = 50 ∨ j = 68 → m' 103 j = m 103 j
theorem rQt_r (m : jM) : rQt m m := ⟨fun _ _ _ _ => rfl, fun _ _ => rfl⟩
theorem rQt_t {m m1 m2 : jM} (h : rQt m m1) (h' : rQt m1 m2) : rQt m m2 := ⟨fun q a b c => by rw [h'.1 q a b c, h.1 q a b c], fun j a => by rw [h'.2 j a, h.2 j a]⟩
theorem rQt_i {m m' : jM} (h : ∀ q, q ≠ 103 → ¬ (119 ≤ q ∧ q ≤ 137) → ¬ (144 ≤ q ∧ q ≤ 148 ∧ q ≠ 146) → m' q = m q) (h' : ∀ f, f = 16 ∨ f = 50 ∨ f = 68 → m' 103 f = m 103 f) : rQt m m' := ⟨h, h'⟩
theorem Inv_rq {m m' : jM} (h : Inv m) (q : rQt m m') : Inv m' := by
  have e : ∀ x, x ≠ 103 → (x < 119 ∨ 137 < x) → (x < 144 ∨ 148 < x ∨ x = 146) → m' x = m x := fun x a b c => q.1 x a (by omega) (by omega)
  refine Inv_fr h (fun x hx => ?_) (fun j _ => by rw [e 0 (by omega) (by omega) (by omega)]) (fun j _ => by rw [e 45 (by omega) (by omega) (by omega)]) q.2
  unfold iRow at hx
  exact e x (by omega) (by omega) (by omega)
theorem Inv_cq {m m' : jM} (h : Inv m) (f : ∀ q, q ≠ 0 → ¬ (q = 51 ∨ q = 52 ∨ q = 53 ∨ q = 6 ∨ (62 ≤ q ∧ q ≤ 74) ∨ q = 93 ∨ q = 60 ∨ q = 91 ∨ q = 92) → m' q = m q) (f0 : m' 0 = m 0) : Inv m' := by
  have e : ∀ q, q ≠ 0 → q ≠ 51 → q ≠ 52 → q ≠ 53 → q ≠ 6 → (q < 62 ∨ 74 < q) → q ≠ 93 → q ≠ 60 → q ≠ 91 → q ≠ 92 → m' q = m q := fun q a b c d e1 g i j k l => f q a (by omega)
  refine Inv_fr h (fun x hx => ?_) (fun j _ => by rw [f0]) (fun j _ => by rw [e 45 (by omega) (by omega) (by omega) (by omega) (by omega) (by omega) (by omega) (by omega) (by omega) (by omega)]) (fun j _ => by rw [e 103 (by omega) (by omega) (by omega) (by omega) (by omega) (by omega) (by omega) (by omega) (by omega) (by omega)])
  unfold iRow at hx
  exact e x (by omega) (by omega) (by omega) (by omega) (by omega) (by omega) (by omega) (by omega) (by omega) (by omega)
theorem q_costs {d : Nat} {m : jM} {Q : Int → jM → Prop} (h : Inv m) (hd : 307 ≤ d) (hQ : ∀ m', Inv m' → rQt m m' → alk (rO (m' 128)) (rB (m' 128)) (rC (m' 104)) (iO m) (rBu m) (rC (m 104)) → (∀ j c : Int, 0 ≤ j → j < 8 → 0 ≤ c → c < 8 → m' 127 (8 * j + c) = rBu m j c) → Q 0 m') : jK d zX11_costs [jO 11 103] m Q := by
  refine jK_deep (show 0 + 307 ≤ d by omega) (s_costs (Inv_rROk h) (Inv_tbd h).2 (fun m' f1 f2 f3 f4 => ?_))
  have q : rQt m m' := ⟨fun q a b c => f1 q a (by omega) (by omega), fun j hj => f2 j (by omega)⟩
  refine hQ m' (Inv_rq h q) q ⟨fun c c1 c2 => by rw [f1 104 (by omega) (by omega) (by omega)], fun j c j1 j2 c1 c2 => (f4 j c j1 j2 c1 c2).1, fun j c j1 j2 c1 c2 hO => (f4 j c j1 j2 c1 c2).2 (by rw [← (f4 j c j1 j2 c1 c2).1]; exact hO)⟩ (fun j c j1 j2 c1 c2 => ?_)
  rw [f3 _ (by omega) (by omega), show (8 * j + c) / 8 = j by omega, show (8 * j + c) % 8 = c by omega]
theorem q_least {d : Nat} {m : jM} {o : Int → Int → Bool} {b : Int → Int → Int} {C : Int → Bool} {Q : Int → jM → Prop} (al : alk (rO (m 128)) (rB (m 128)) (rC (m 104)) o b C) (hB : dpB o b) (hd : 2 ≤ d) (hQ : ∀ m', (∀ q, q ≠ 129 → q ≠ 130 → m' q = m q) → rQt m m' → rLT m' → m' 130 0 = (dpt 0 o b C 8 0).2 → Q (dpt 0 o b C 8 0).1 m') : jK d zX11_least [jO 11 103] m Q := by
  have hB' := alk_B (alk_s al) hB
  refine jK_deep (show 0 + 2 ≤ d by omega) (s_least hB' (fun m' f r => ?_))
  have e := r 8 (Nat.le_refl 8) 0 mk_0
  unfold rEn at e
  rw [f 128 (by omega) (by omega), f 104 (by omega) (by omega), alk_dp al 0 (Nat.le_refl 8) 0] at e
  have e1 : m' 129 0 = (dpt 0 o b C 8 0).1 := e.1
  have e2 : m' 130 0 = (dpt 0 o b C 8 0).2 := e.2
  rw [e1]
  exact hQ m' f ⟨fun q a b c => f q (by omega) (by omega), fun j _ => by rw [f 103 (by omega) (by omega)]⟩ r e2
theorem s_toldOr {d : Nat} {v : Int} {m : jM} {Q : Int → jM → Prop} (hQ : Q (toN v) m) : jK (d + 1) zX11_toldOr [jL v] m Q := by
  refine gX11_toldOr d v m Q ⟨fun g => ?_, fun g => ?_⟩
  · rw [show v = dpF from g, toN_F] at hQ; exact hQ
  · rw [toN_n (show v ≠ dpF from g)] at hQ; exact hQ
/-- the class's plan: its least total, how often -/
theorem pl_v {m : jM} (pl : iPl m) : m 58 0 = toN (dpt 0 (iO m) (rBu m) (rC (m 104)) 8 0).1 ∧ m 59 0 = (dpt 0 (iO m) (rBu m) (rC (m 104)) 8 0).2 := by
  have e := pW_0 pl.2.2.2.2
  have a := alk_dp pl.2.2.1 0 (Nat.le_refl 8) 0
  rw [← a]
  exact e
theorem th_weigh {d : Nat} {h : Int} {mm : jM} {o : Int → Int → Bool} {b : Int → Int → Int} {C : Int → Bool} {Q : Int → jM → Prop} (hm : mk8 (mm 62 0)) (hr : ∀ c : Int, 0 ≤ c → c < 8 → mk8 (mm 65 c)) (al : dpB (pO (mm 65)) (rB (mm 64))) (hv : dpt h (pO (mm 65)) (rB (mm 64)) (bt (mm 62 0)) 8 0 = dpt h o b C 8 0) (hd : 3 ≤ d)
    (hQ : ∀ m', (∀ q, q ≠ 62 → q ≠ 63 → q ≠ 66 → q ≠ 67 → m' q = mm q) → m' 62 0 = mm 62 0 → m' 66 0 = toN (dpt h o b C 8 0).1 → Q 0 m') : jK d zX4_weigh [jO 4 62, jI h] mm Q := by
  refine jK_deep (show 0 + 3 ≤ d by omega) (s_weigh (p := 62) hm hr al (fun m' f e w => ?_))
  have f' : ∀ q, q ≠ 62 → q ≠ 63 → q ≠ 66 → q ≠ 67 → m' q = mm q := f
  have w0 := (pW_0 w).1
  have e0 : m' 62 0 = mm 62 0 := e 0 (by omega) (by omega)
  refine hQ m' f' e0 ?_
  rw [← hv]
  have w1 : m' 66 0 = toN (dpt h (pO (m' 65)) (rB (m' 64)) (bt (m' 62 0)) 8 0).1 := w0
  rw [w1, e0, f' 65 (by omega) (by omega) (by omega) (by omega), f' 64 (by omega) (by omega) (by omega) (by omega)]
noncomputable def vD (m : jM) : Int × Int := dpt 0 (iO m) (rBu m) (rC (m 104)) 8 0
theorem vD_R {m : jM} (h : Inv m) : dpR 8 (vD m) := dpt_r (Inv_B h) 8 (Nat.le_refl 8) 0 mk_0
theorem vD_p {m : jM} (h : Inv m) : 0 ≤ (vD m).2 ∧ (vD m).2 ≤ 16777216 := dpt_pos (Inv_B h) (Nat.le_refl 8) mk_0
theorem vD_F {m : jM} (h : Inv m) : (vD m).1 = dpF ↔ (vD m).2 = 0 := dpt_F (Inv_B h) (Nat.le_refl 8) mk_0
/-! total, many, open, best -/
theorem c_total {d : Nat} {m : jM} {Q : Int → jM → Prop} (h : Inv m) (hd : 20 ≤ d) (hQ : ∀ m', Inv m' → cQt m m' → Q (toN (vD m').1) m') : jK d zX10_total [jO 10 0] m Q := by
  refine jK_deep (show 19 + 1 ≤ d by omega) (gX10_total 19 m Q (r_plan h (fun m1 h1 p1 pl1 q1 => ⟨by omega, ?_⟩) (by omega)))
  rw [(pl_v pl1).1]
  exact hQ m1 h1 q1
theorem q_total {d : Nat} {m : jM} {Q : Int → jM → Prop} (h : Inv m) (hd : 320 ≤ d) (hQ : ∀ m', rQt m m' → Q (toN (vD m).1) m') : jK d zX11_total [jO 11 103] m Q := by
  refine jK_deep (show 319 + 1 ≤ d by omega) (gX11_total 319 m Q (q_costs h (by omega) (fun m1 h1 q1 al _ => q_least al (Inv_B h) (by omega) (fun m2 f2 q2 r2 e2 => s_toldOr ?_))))
  exact hQ m2 (rQt_t q1 q2)
theorem c_many {d : Nat} {m : jM} {Q : Int → jM → Prop} (h : Inv m) (hd : 20 ≤ d) (hQ : ∀ m', Inv m' → cQt m m' → Q (vD m').2 m') : jK d zX10_many [jO 10 0] m Q := by
  refine jK_deep (show 19 + 1 ≤ d by omega) (gX10_many 19 m Q (r_plan h (fun m1 h1 p1 pl1 q1 => ⟨by omega, ?_⟩) (by omega)))
  rw [(pl_v pl1).2]
  exact hQ m1 h1 q1
theorem q_many {d : Nat} {m : jM} {Q : Int → jM → Prop} (h : Inv m) (hd : 320 ≤ d) (hQ : ∀ m', rQt m m' → Q (vD m).2 m') : jK d zX11_many [jO 11 103] m Q := by
  refine jK_deep (show 319 + 1 ≤ d by omega) (gX11_many 319 m Q (q_costs h (by omega) (fun m1 h1 q1 al _ => q_least al (Inv_B h) (by omega) (fun m2 f2 q2 r2 e2 => ⟨fun g => ?_, fun g => ⟨by omega, ?_⟩⟩))))
  · have := hQ m2 (rQt_t q1 q2)
    rw [(vD_F h).mp g] at this
    exact this
  · rw [e2]
    exact hQ m2 (rQt_t q1 q2)
theorem c_open {d : Nat} {j c : Int} {m : jM} {Q : Int → jM → Prop} (h : Inv m) (hd : 20 ≤ d) (hB : ¬ ((0 ≤ j ∧ j ≤ 7) ∧ 0 ≤ c ∧ c ≤ 7) → Q (-2) m) (hQ : (0 ≤ j ∧ j ≤ 7) ∧ 0 ≤ c ∧ c ≤ 7 → ∀ m', Inv m' → cQt m m' → Q (bI (iO m' j c = true)) m') : jK d zX10_open [jO 10 0, jI j, jI c] m Q := by
  refine jK_deep (show 19 + 1 ≤ d by omega) (gX10_open 19 j c m Q (s_isPairC ⟨fun g => ?_, fun g => ?_⟩))
  · rw [bI_0] at g; exact hB g
  · rw [bI_0, Classical.not_not] at g
    refine r_plan h (fun m1 h1 p1 pl1 q1 => s_isOpen (p := 54) (by omega) (by omega) ?_) (by omega)
    have e : pO (m1 (54 + 3)) j c = iO m1 j c := pl1.2.2.1.2.1 j c (by omega) (by omega) (by omega) (by omega)
    have := hQ g m1 h1 q1
    refine ⟨fun w => ?_, fun w => ?_⟩ <;> rw [bI_0, e] at w
    · rw [bI_f w] at this; exact this
    · rw [bI_t (Classical.not_not.mp w)] at this; exact this
theorem q_open {d : Nat} {j c : Int} {m : jM} {Q : Int → jM → Prop} (h : Inv m) (hd : 320 ≤ d) (hB : ¬ ((0 ≤ j ∧ j ≤ 7) ∧ 0 ≤ c ∧ c ≤ 7) → Q (-2) m) (hQ : (0 ≤ j ∧ j ≤ 7) ∧ 0 ≤ c ∧ c ≤ 7 → ∀ m', rQt m m' → Q (bI (iO m j c = true)) m') : jK d zX11_open [jO 11 103, jI j, jI c] m Q := by
  refine jK_deep (show 319 + 1 ≤ d by omega) (gX11_open 319 j c m Q (s_isPair ⟨fun g => ?_, fun g => ?_⟩))
  · rw [bI_0] at g; exact hB g
  · rw [bI_0, Classical.not_not] at g
    refine q_costs h (by omega) (fun m1 h1 q1 al _ => ?_)
    rw [w32_id (z := 8 * j) (by omega) (by omega), w32_id (by omega) (by omega)]
    have e := al.2.1 j c (by omega) (by omega) (by omega) (by omega)
    unfold rO at e
    have := hQ g m1 q1
    refine ⟨by omega, fun w => ?_, fun w => ?_⟩
    · rw [bI_f (by rw [← e]; simp [w])] at this; exact this
    · rw [bI_t (by rw [← e]; simp [w])] at this; exact this
noncomputable def vBst (m : jM) (i c : Int) : Int := (((bst (iO m) (rBu m) (rC (m 104)) 8 0)[i.toNat]?).getD []).getD c.toNat (-1)
theorem c_best {d : Nat} {i c : Int} {m : jM} {Q : Int → jM → Prop} (h : Inv m) (hi : i ≤ 2147483647) (hd : 20 ≤ d) (hB : ¬ (0 ≤ c ∧ c ≤ 7) → Q (-2) m) (hS : (0 ≤ c ∧ c ≤ 7) → ∀ m', Inv m' → cQt m m' → ¬ (0 ≤ i ∧ i < (vD m').2) → Q (-3) m') (hQ : 0 ≤ c ∧ c ≤ 7 → ∀ m', Inv m' → cQt m m' → (0 ≤ i ∧ i < (vD m').2) → Q (vBst m' i c) m') : jK d zX10_best [jO 10 0, jI i, jI c] m Q := by
  refine jK_deep (show 19 + 1 ≤ d by omega) (gX10_best 19 i c m Q (s_isSeat ⟨fun g => ?_, fun g => ?_⟩))
  · rw [bI_0] at g; exact hB g
  · rw [bI_0, Classical.not_not] at g
    refine r_plan h (fun m1 h1 p1 pl1 q1 => ?_) (by omega)
    have ev : m1 59 0 = (vD m1).2 := (pl_v pl1).2
    refine ⟨fun w => hS g m1 h1 q1 (by omega), fun w => ⟨by omega, fun w2 => ?_, fun w2 => hS g m1 h1 q1 (by omega)⟩⟩
    rw [ev] at w2
    obtain ⟨T, hT⟩ := bst_get (Inv_B h1) (show 0 ≤ i by omega) w2
    have hT' := hT
    rw [← alk_bst pl1.2.2.1 (Nat.le_refl 8) 0] at hT
    refine s_pick (p := 54) (y := 93) (T := T) (by omega) pl1.2.2.2.2 pl1.2.1 (iPl_B h1 pl1) (by omega) hT (fun m2 f2 e2 => ⟨by omega, ?_⟩)
    rw [e2 c (by omega) (by omega)]
    have h2 : Inv m2 := Inv_cq h1 (fun q _ a => f2 q (by omega)) (f2 0 (by omega))
    have i2 : iO m2 = iO m1 := iO_q (fun q a b => f2 q (by omega))
    have b2 : rBu m2 = rBu m1 := rBu_q (fun q a b => f2 q (by omega))
    have r2 : m2 104 = m1 104 := f2 104 (by omega)
    have := hQ g m2 h2 (cQt_t q1 ⟨fun q a b => f2 q (by omega), fun j _ => by rw [f2 0 (by omega)]⟩) (by unfold vD; rw [i2, b2, r2]; exact ⟨by omega, w2⟩)
    unfold vBst at this
    rw [i2, b2, r2, hT'] at this
    exact this
theorem q_best {d : Nat} {i c : Int} {m : jM} {Q : Int → jM → Prop} (h : Inv m) (hi : i ≤ 2147483647) (hd : 320 ≤ d) (hB : ¬ (0 ≤ c ∧ c ≤ 7) → Q (-2) m) (hS : (0 ≤ c ∧ c ≤ 7) → ∀ m', rQt m m' → ¬ (0 ≤ i ∧ i < (vD m).2) → Q (-3) m') (hQ : 0 ≤ c ∧ c ≤ 7 → ∀ m', rQt m m' → (0 ≤ i ∧ i < (vD m).2) → Q (vBst m i c) m') : jK d zX11_best [jO 11 103, jI i, jI c] m Q := by
  refine jK_deep (show 319 + 1 ≤ d by omega) (gX11_best 319 i c m Q (s_in ⟨fun g => ?_, fun g => ?_⟩))
  · rw [bI_0] at g; exact hB g
  · rw [bI_0, Classical.not_not] at g
    have hp := vD_p h
    refine q_costs h (by omega) (fun m1 h1 q1 al _ => q_least al (Inv_B h) (by omega) (fun m2 f2 q2 r2 e2 => ⟨fun w => hS g m2 (rQt_t q1 q2) ?_, fun w => ⟨by omega, s_in ⟨fun w2 => ?_, fun w2 => ?_⟩⟩⟩))
    · have := (vD_F h).mp w; omega
    · rw [bI_0, e2, w32_id (by unfold vD at hp; omega) (by unfold vD at hp; omega)] at w2
      exact hS g m2 (rQt_t q1 q2) (by unfold vD; omega)
    · rw [bI_0, e2, w32_id (by unfold vD at hp; omega) (by unfold vD at hp; omega), Classical.not_not] at w2
      have w3 : i < (vD m).2 := by unfold vD; omega
      obtain ⟨T, hT⟩ := bst_get (Inv_B h) w2.1 w3
      have hT' := hT
      have al2 : alk (rO (m2 128)) (rB (m2 128)) (rC (m2 104)) (iO m) (rBu m) (rC (m 104)) := by rw [f2 128 (by omega) (by omega), f2 104 (by omega) (by omega)]; exact al
      rw [← alk_bst al2 (Nat.le_refl 8) 0] at hT
      refine jK_deep (show 0 + 2 ≤ 319 by omega) (s_picks (alk_B (alk_s al2) (Inv_B h)) r2 ⟨w2.1, hi⟩ hT (fun m3 f3 e3 => ⟨by omega, ?_⟩))
      rw [e3 c (by omega) (by omega)]
      have := hQ g m3 (rQt_t q1 (rQt_t q2 ⟨fun q a b c => f3 q (by omega), fun j _ => by rw [f3 103 (by omega)]⟩)) ⟨w2.1, w3⟩
      unfold vBst at this
      rw [hT'] at this
      exact this

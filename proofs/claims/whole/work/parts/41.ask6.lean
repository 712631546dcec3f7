/-! told -/
theorem Inv_nm {m : jM} (h : Inv m) : nmN (m 110) := by
  obtain ⟨rk, hk, hr⟩ := h.2.2.2.2.1
  intro r q r1 r2 q1 q2
  rw [(hr r r1 r2).2.2.2.2 q q1 q2]
  exact cnr_nn
def nmr (nm : Int → Int) (r : Int) : Int := mkf (fun i => decide (0 < nm (4 * i + r))) 4
def vTd (m : jM) (r w : Int) : Int := if w = 0 then m 108 r else if w = 1 then wtf (m 108) (m 110) 4 r else if w = 2 then nmk (m 110) r else if w = 3 then nmr (m 110) r else cto (nmk (m 110)) r
theorem vTd_q {m m' : jM} (h : ∀ q, 104 ≤ q → q ≤ 117 → m' q = m q) (r w : Int) : vTd m' r w = vTd m r w := by
  unfold vTd
  rw [h 108 (by omega) (by omega), h 110 (by omega) (by omega)]
theorem sh_0 {i : Int} (h : 0 ≤ i ∧ i < 4) : iShl 0 i = 0 := by
  obtain ⟨n, rfl⟩ : ∃ n : Nat, i = n := ⟨i.toNat, by omega⟩
  have : ∀ n : Fin 4, iShl 0 (n.val : Int) = 0 := by decide +kernel
  exact this ⟨n, by omega⟩
theorem or_0 {x : Int} (hx : mk8 x) : iOr x 0 = x := mk_ext (mk_or hx mk_0) hx (fun j _ _ => by rw [bt_or, bt_0, Bool.or_false])
theorem s_namersOf {d : Nat} {nm : Int → Int} {r : Int} {m : jM} {Q : Int → jM → Prop} (hr : 0 ≤ r ∧ r < 4) (hN : ∀ q : Int, 0 ≤ q → q < 4 → ruN nm m (m 5 q) q) (h : Q (nmr nm r) m) : jK (d + 2) zX0_namersOf [jO 0 1, jI r] m Q := by
  have loop : ∀ (k : Nat) (i : Int), 0 ≤ i → i + k = 4 → aX0_namersOf_4 (d + 1) r (mkf (fun i => decide (0 < nm (4 * i + r))) i.toNat) i m Q := by
    intro k
    induction k with
    | zero =>
      intro i i0 ik
      refine gX0_namersOf_4 (d + 1) r _ i m Q ⟨fun q => by omega, fun _ => ?_⟩
      rw [show i = 4 by omega]
      exact h
    | succ k ih =>
      intro i i0 ik
      have n := ih (i + 1) (by omega) (by omega)
      rw [mkf_s _ i0] at n
      have hx := (mkf_ok (fun i => decide (0 < nm (4 * i + r))) i.toNat (by omega)).1
      refine gX0_namersOf_4 (d + 1) r _ i m Q ⟨fun q => ⟨by omega, s_namesC (hN i i0 (by omega)) ?_⟩, fun q => by omega⟩
      rw [w32_id (by omega) (by omega), bt_get (by omega)]
      have e := (nmk_ok nm i).2 r hr.1 (by omega)
      by_cases g : 0 < nm (4 * i + r)
      · rw [if_pos (e.mpr ⟨hr.2, g⟩)]
        rw [if_pos (by simp [g])] at n
        exact n
      · rw [if_neg (fun x => g (e.mp x).2), sh_0 (by omega), or_0 hx]
        rw [if_neg (by simp [g])] at n
        exact n
  exact gX0_namersOf (d + 1) r m Q (loop 4 0 (by omega) (by omega))
theorem c_told {d : Nat} {r w : Int} {m : jM} {Q : Int → jM → Prop} (h : Inv m) (hd : 20 ≤ d) (hB : ¬ ((0 ≤ r ∧ r ≤ 3) ∧ 0 ≤ w ∧ w ≤ 4) → Q (-2) m) (hQ : ((0 ≤ r ∧ r ≤ 3) ∧ 0 ≤ w ∧ w ≤ 4) → ∀ m', Inv m' → cQt m m' ∨ (∀ q, q ≠ 6 → m' q = m q) → Q (vTd m' r w) m') : jK d zX10_told [jO 10 0, jI r, jI w] m Q := by
  refine jK_deep (show 19 + 1 ≤ d by omega) (gX10_told 19 r w m Q (s_isRule ⟨fun g => ?_, fun g => ?_⟩))
  · rw [bI_0] at g; exact hB (fun x => g x.1)
  · rw [bI_0, Classical.not_not] at g
    obtain ⟨rk, hk, hr⟩ := h.2.2.2.2.1
    have hp := h.2.2.2.2.2.1.1
    have hN : ∀ q : Int, 0 ≤ q → q < 4 → ruN (m 110) m (m 5 q) q := fun q q1 q2 => (hr q q1 q2).2.2.2.1
    have st : ∀ v, (0 ≤ w ∧ w ≤ 4) → v = vTd m r w → Q v m := fun v gw hv => by rw [hv]; exact hQ ⟨g, gw⟩ m h (Or.inl (cQt_r m))
    refine ⟨fun w0 => ⟨by omega, st _ (by omega) ?_⟩, fun w0 => ?_, fun w0 => ⟨by omega, s_namesC (hN r g.1 (by omega)) (st _ (by omega) ?_)⟩, fun w0 => jK_deep (show 0 + 2 ≤ 19 by omega) (s_namersOf (by omega) hN (st _ (by omega) ?_)), fun w0 => jK_deep (show 0 + 2 ≤ 19 by omega) (s_reachOf (by omega) hN (st _ (by omega) ?_)), fun w0 => hB (by omega), trivial⟩
    · unfold vTd
      rw [if_pos (by omega)]
      exact (hr r g.1 (by omega)).1
    · refine jK_deep (show 0 + 2 ≤ 19 by omega) (s_weighRules hk (wt_ex (P := m 108) hk (Inv_nm h)) (Inv_nm h) (fun q q1 q2 => ⟨hN q q1 q2, (hr q q1 q2).1, (hr q q1 q2).2.1, ?_⟩) (fun m1 f1 e1 => ⟨by omega, ?_⟩))
      · have := hp q q1 q2
        unfold rcl at this
        omega
      · have h1 : Inv m1 := Inv_cq h (fun q _ a => f1 q (by omega)) (f1 0 (by omega))
        have := hQ ⟨g, by omega⟩ m1 h1 (Or.inr f1)
        unfold vTd at this
        rw [if_neg (by omega), if_pos (by omega), f1 108 (by omega), f1 110 (by omega)] at this
        rw [e1 r g.1 (by omega)]
        exact this
    · unfold vTd
      rw [if_neg (by omega), if_neg (by omega), if_pos (by omega)]
    · unfold vTd
      rw [if_neg (by omega), if_neg (by omega), if_neg (by omega), if_pos (by omega)]
    · unfold vTd
      rw [if_neg (by omega), if_neg (by omega), if_neg (by omega), if_neg (by omega)]
theorem q_told {d : Nat} {r w : Int} {m : jM} {Q : Int → jM → Prop} (h : Inv m) (hd : 20 ≤ d) (hB : ¬ ((0 ≤ r ∧ r ≤ 3) ∧ 0 ≤ w ∧ w ≤ 4) → Q (-2) m) (hQ : ((0 ≤ r ∧ r ≤ 3) ∧ 0 ≤ w ∧ w ≤ 4) → Q (vTd m r w) m) : jK d zX11_told [jO 11 103, jI r, jI w] m Q := by
  refine jK_deep (show 19 + 1 ≤ d by omega) (gX11_told 19 r w m Q (s_in ⟨fun g => ?_, fun g => s_in ⟨fun g2 => ?_, fun g2 => ?_⟩⟩))
  · rw [bI_0] at g; exact hB (fun x => g x.1)
  · rw [bI_0] at g2; exact hB (fun x => g2 x.2)
  · rw [bI_0, Classical.not_not] at g g2
    have hq := hQ ⟨g, g2⟩
    unfold vTd at hq
    obtain ⟨rk, hk, hr⟩ := h.2.2.2.2.1
    refine ⟨fun w0 => ⟨by omega, ?_⟩, fun w0 => ⟨fun w1 => ?_, fun w1 => ⟨fun w2 => ?_, fun w2 => ⟨fun w4 => ?_, fun w4 => ?_⟩⟩⟩⟩
    · rw [if_pos w0] at hq; exact hq
    · rw [if_neg w0, if_pos w1] at hq
      exact jK_deep (show 0 + 4 ≤ 19 by omega) (s_weightR hk (wt_ex (P := m 108) hk (Inv_nm h)) (Inv_nm h) (fun q q1 q2 => ⟨rfl, (hr q q1 q2).2.1⟩) 4 r _ g.1 (by omega) (by have := (hk.1 r g.1 (by omega)).2; omega) hq)
    · rw [if_neg w0, if_neg w1, if_pos w2] at hq
      exact s_namesR (by omega) hq
    · rw [if_neg w0, if_neg w1, if_neg w2, if_neg (by omega)] at hq
      exact jK_deep (show 0 + 2 ≤ 19 by omega) (s_comesTo (by omega) hq)
    · rw [if_neg w0, if_neg w1, if_neg w2, if_pos (by omega)] at hq
      have loop : ∀ (k : Nat) (i : Int), 0 ≤ i → i + k = 4 → aX11_told_76 19 r (mkf (fun i => decide (0 < m 110 (4 * i + r))) i.toNat) i m Q := by
        intro k
        induction k with
        | zero =>
          intro i i0 ik
          refine gX11_told_76 19 r _ i m Q ⟨fun q => by omega, fun _ => ?_⟩
          rw [show i = 4 by omega]
          exact hq
        | succ k ih =>
          intro i i0 ik
          have n := ih (i + 1) (by omega) (by omega)
          rw [mkf_s _ i0] at n
          refine gX11_told_76 19 r _ i m Q ⟨fun q => ?_, fun q => by omega⟩
          rw [w32_id (z := 4 * i) (by omega) (by omega), w32_id (z := 4 * i + r) (by omega) (by omega), w32_id (by omega) (by omega)]
          refine ⟨by omega, fun x => ?_, fun x => ?_⟩
          · rw [if_pos (by simp [x])] at n; exact n
          · rw [if_neg (by simp [x])] at n; exact n
      exact loop 4 0 (by omega) (by omega)
/-! count -/
theorem dbl {E : Int → Int → Bool} : pcn (fun p => E (p / 8) (p % 8)) 64 = sv (fun c => pcn (fun j => E j c) 8) 8 0 := by
  have key : ∀ n : Nat, n ≤ 64 → pcn (fun p => E (p / 8) (p % 8)) n = sv (fun c => pcn (fun j => E j c && decide (8 * j + c < n)) 8) 8 0 := by
    intro n
    induction n with
    | zero =>
      intro _
      have : sv (fun c => pcn (fun j => E j c && decide (8 * j + c < ((0 : Nat) : Int))) 8) 8 0 = sv (fun _ => 0) 8 0 := by
        refine sv_congr 8 0 (fun c c1 c2 => ?_)
        have : pcn (fun j => E j c && decide (8 * j + c < ((0 : Nat) : Int))) 8 = pcn (fun _ => false) 8 := pcn_ext (fun j j1 j2 => by
          rw [decide_eq_false (show ¬ 8 * j + c < ((0 : Nat) : Int) by omega), Bool.and_false])
        rw [this]
        decide
      rw [this, sv_0]
      rfl
    | succ n ih =>
      intro h64
      have e : pcn (fun p => E (p / 8) (p % 8)) (n + 1) = pcn (fun p => E (p / 8) (p % 8)) n + (if E ((n : Int) / 8) ((n : Int) % 8) = true then 1 else 0) := rfl
      rw [e, ih (by omega)]
      have same : ∀ j c : Int, 0 ≤ c → c < 8 → 8 * j + c ≠ n → (decide (8 * j + c < ((n + 1 : Nat) : Int)) = decide (8 * j + c < (n : Int))) := fun j c _ _ h => by
        have : (8 * j + c < ((n + 1 : Nat) : Int)) ↔ (8 * j + c < (n : Int)) := by omega
        simp only [this]
      by_cases hE : E ((n : Int) / 8) ((n : Int) % 8) = true
      · rw [if_pos hE]
        have hsv : sv (fun c => pcn (fun j => E j c && decide (8 * j + c < ((n + 1 : Nat) : Int))) 8) 8 0 = sv (fun c => if c = (n : Int) % 8 then pcn (fun j => E j c && decide (8 * j + c < (n : Int))) 8 + 1 else pcn (fun j => E j c && decide (8 * j + c < (n : Int))) 8) 8 0 := by
          refine sv_congr 8 0 (fun c c1 c2 => ?_)
          by_cases hc : c = (n : Int) % 8
          · rw [if_pos hc]
            refine pcn_add (k := (n : Int) / 8) (by omega) ?_ (fun j j1 j2 => ?_)
            · have : ¬ 8 * ((n : Int) / 8) + c < (n : Int) := by omega
              simp [this]
            · by_cases hj : j = (n : Int) / 8
              · have e1 : 8 * j + c < ((n + 1 : Nat) : Int) := by omega
                have e2 : E j c = true := by rw [hj, hc]; exact hE
                simp [hj] at e1 ⊢
                rw [← hj]
                simp [e2]
                omega
              · rw [same j c (by omega) (by omega) (by omega)]
                simp [hj]
          · rw [if_neg hc]
            exact pcn_ext (fun j j1 j2 => by rw [same j c (by omega) (by omega) (by omega)])
        rw [hsv]
        refine (sv_add1 (t := (n : Int) % 8) (by omega) (fun x hx => ?_) ?_).symm
        · rw [if_neg hx]
        · rw [if_pos rfl]
      · rw [if_neg hE, Int.add_zero]
        refine sv_congr 8 0 (fun c c1 c2 => pcn_ext (fun j j1 j2 => ?_))
        by_cases hn : 8 * j + c = n
        · have e2 : E j c = false := by
            rw [show j = (n : Int) / 8 by omega, show c = (n : Int) % 8 by omega]
            simpa using hE
          simp [e2]
        · rw [same j c (by omega) (by omega) hn]
  rw [key 64 (Nat.le_refl 64)]
  refine sv_congr 8 0 (fun c c1 c2 => pcn_ext (fun j j1 j2 => ?_))
  rw [decide_eq_true (show 8 * j + c < ((64 : Nat) : Int) by omega), Bool.and_true]
noncomputable def vOp (m : jM) : Int := pcn (fun p => iO m (p / 8) (p % 8)) 64
theorem s_openPairs {d : Nat} {E : Int → Int → Bool} {m : jM} {Q : Int → jM → Prop} (hr : ∀ c : Int, 0 ≤ c → c < 8 → mk8 (m 57 c)) (hE : ∀ j c : Int, 0 ≤ j → j < 8 → 0 ≤ c → c < 8 → pO (m 57) j c = E j c) (h : Q (pcn (fun p => E (p / 8) (p % 8)) 64) m) : jK (d + 2) zX4_openPairs [jO 4 54] m Q := by
  rw [dbl] at h
  have e : ∀ c : Int, 0 ≤ c → c < 8 → pc8 (m 57 c) = pcn (fun j => E j c) 8 := fun c c1 c2 => pcn_ext (fun j j1 j2 => hE j c j1 j2 c1 c2)
  generalize hf : (fun c => pcn (fun j => E j c) 8) = f at h
  have ef : ∀ c, pcn (fun j => E j c) 8 = f c := fun c => by rw [← hf]
  have fb : ∀ c, 0 ≤ f c ∧ f c ≤ 8 := fun c => by rw [← ef]; exact pcn_nn _ 8
  have loop : ∀ (k : Nat) (i x : Int), 0 ≤ i → i + k = 8 → 0 ≤ x → x ≤ 8 * i → Q (x + sv f k i) m → aX4_openPairs_4 (d + 1) 54 x i m Q := by
    intro k
    induction k with
    | zero =>
      intro i x i0 ik x0 x1 hq
      refine gX4_openPairs_4 (d + 1) 54 x i m Q ⟨fun q => by omega, fun _ => ?_⟩
      rw [show x + sv f 0 i = x from Int.add_zero x] at hq
      exact hq
    | succ k ih =>
      intro i x i0 ik x0 x1 hq
      have b := fb i
      refine gX4_openPairs_4 (d + 1) 54 x i m Q ⟨fun q => ⟨by omega, s_bc (hr i i0 (by omega)) ?_⟩, fun q => by omega⟩
      rw [(show pc8 (m (54 + 3) i) = f i from (e i i0 (by omega)).trans (ef i)), w32_id (z := i + 1) (by omega) (by omega), w32_id (by omega) (by omega)]
      refine ih (i + 1) _ (by omega) (by omega) (by omega) (by omega) ?_
      rw [sv_s] at hq
      rw [show x + f i + sv f k (i + 1) = x + (f i + sv f k (i + 1)) by omega]
      exact hq
  refine gX4_openPairs (d + 1) 54 m Q (loop 8 0 0 (by omega) (by omega) (by omega) (by omega) ?_)
  rw [Int.zero_add]
  exact h
theorem s_openMany {d : Nat} {E : Int → Int → Bool} {m : jM} {Q : Int → jM → Prop} (hE : ∀ j c : Int, 0 ≤ j → j < 8 → 0 ≤ c → c < 8 → rO (m 128) j c = E j c) (h : Q (pcn (fun p => E (p / 8) (p % 8)) 64) m) : jK (d + 1) zX11_openMany [jO 11 103] m Q := by
  have loop : ∀ (k : Nat) (i : Int), 0 ≤ i → i + k = 64 → aX11_openMany_4 d (pcn (fun p => E (p / 8) (p % 8)) i.toNat) i m Q := by
    intro k
    induction k with
    | zero =>
      intro i i0 ik
      refine gX11_openMany_4 d _ i m Q ⟨fun q => by omega, fun _ => ?_⟩
      rw [show i = 64 by omega]
      exact h
    | succ k ih =>
      intro i i0 ik
      have n := ih (i + 1) (by omega) (by omega)
      have b := pcn_nn (fun p => E (p / 8) (p % 8)) i.toNat
      rw [pcn_s _ _ i0] at n
      have e := hE (i / 8) (i % 8) (by omega) (by omega) (by omega) (by omega)
      unfold rO at e
      rw [show 8 * (i / 8) + i % 8 = i by omega] at e
      refine gX11_openMany_4 d _ i m Q ⟨fun q => ⟨by omega, fun g => ?_, fun g => ?_⟩, fun q => by omega⟩ <;> rw [w32_id (z := i + 1) (by omega) (by omega)]
      · rw [if_neg (by rw [← e]; simp [g]), Int.add_zero] at n; exact n
      · rw [if_pos (by rw [← e]; simp [g])] at n
        rw [w32_id (by omega) (by omega)]
        exact n
  exact gX11_openMany d m Q (loop 64 0 (by omega) (by omega))
theorem s_marked {d : Nat} {x : Int} {m : jM} {Q : Int → jM → Prop} (h : Q (pcn (fun p => decide (m 4 p = x)) 64) m) : jK (d + 1) zX0_marked [jO 0 1, jI x] m Q := by
  have loop : ∀ (k : Nat) (i : Int), 0 ≤ i → i + k = 64 → aX0_marked_4 d x (pcn (fun p => decide (m 4 p = x)) i.toNat) i m Q := by
    intro k
    induction k with
    | zero =>
      intro i i0 ik
      refine gX0_marked_4 d x _ i m Q ⟨fun q => by omega, fun _ => ?_⟩
      rw [show i = 64 by omega]
      exact h
    | succ k ih =>
      intro i i0 ik
      have n := ih (i + 1) (by omega) (by omega)
      have b := pcn_nn (fun p => decide (m 4 p = x)) i.toNat
      rw [pcn_s _ _ i0] at n
      refine gX0_marked_4 d x _ i m Q ⟨fun q => ⟨by omega, fun g => ?_, fun g => ?_⟩, fun q => by omega⟩ <;> rw [w32_id (z := i + 1) (by omega) (by omega), w32_id (by omega) (by omega)]
      · rw [if_pos (by simp [g])] at n; exact n
      · rw [if_neg (by simp [g])] at n; exact n
  exact gX0_marked d x m Q (loop 64 0 (by omega) (by omega))
theorem s_marksOf {d : Nat} {x : Int} {m : jM} {Q : Int → jM → Prop} (h : Q (pcn (fun p => decide (m 107 p = x)) 64) m) : jK (d + 1) zX11_marksOf [jO 11 103, jI x] m Q := by
  have loop : ∀ (k : Nat) (i : Int), 0 ≤ i → i + k = 64 → aX11_marksOf_4 d x (pcn (fun p => decide (m 107 p = x)) i.toNat) i m Q := by
    intro k
    induction k with
    | zero =>
      intro i i0 ik
      refine gX11_marksOf_4 d x _ i m Q ⟨fun q => by omega, fun _ => ?_⟩
      rw [show i = 64 by omega]
      exact h
    | succ k ih =>
      intro i i0 ik
      have n := ih (i + 1) (by omega) (by omega)
      have b := pcn_nn (fun p => decide (m 107 p = x)) i.toNat
      rw [pcn_s _ _ i0] at n
      refine gX11_marksOf_4 d x _ i m Q ⟨fun q => ⟨by omega, fun g => ?_, fun g => ?_⟩, fun q => by omega⟩ <;> rw [w32_id (z := i + 1) (by omega) (by omega)]
      · rw [if_pos (by simp [g])] at n; rw [w32_id (by omega) (by omega)]; exact n
      · rw [if_neg (by simp [g]), Int.add_zero] at n; exact n
  exact gX11_marksOf d x m Q (loop 64 0 (by omega) (by omega))
theorem s_owned {d : Nat} {m : jM} {Q : Int → jM → Prop} (h : Q (pcn (fun p => decide (m 3 p ≠ -1)) 64) m) : jK (d + 1) zX0_owned [jO 0 1] m Q := by
  have loop : ∀ (k : Nat) (i : Int), 0 ≤ i → i + k = 64 → aX0_owned_4 d (pcn (fun p => decide (m 3 p ≠ -1)) i.toNat) i m Q := by
    intro k
    induction k with
    | zero =>
      intro i i0 ik
      refine gX0_owned_4 d _ i m Q ⟨fun q => by omega, fun _ => ?_⟩
      rw [show i = 64 by omega]
      exact h
    | succ k ih =>
      intro i i0 ik
      have n := ih (i + 1) (by omega) (by omega)
      have b := pcn_nn (fun p => decide (m 3 p ≠ -1)) i.toNat
      rw [pcn_s _ _ i0] at n
      refine gX0_owned_4 d _ i m Q ⟨fun q => ⟨by omega, fun g => ?_, fun g => ?_⟩, fun q => by omega⟩ <;> rw [w32_id (z := i + 1) (by omega) (by omega), w32_id (by omega) (by omega)]
      · rw [if_neg (by simp [g])] at n; exact n
      · rw [if_pos (by simp [g])] at n; exact n
  exact gX0_owned d m Q (loop 64 0 (by omega) (by omega))
noncomputable def vCt (m : jM) (w : Int) : Int := if w = 0 then pcn (rJ (m 104)) 8 else if w = 1 then pcn (rC (m 104)) 8 else if w = 2 then vOp m else if w = 3 then pcn (fun p => decide (m 107 p = 2)) 64 else if w = 4 then pcn (fun p => decide (m 107 p = 1)) 64 else if w = 5 then pcn (fun p => decide (m 106 p ≠ -1)) 64 else if w = 6 then m 103 50 else if w = 7 then m 103 16 else -2
theorem c_count {d : Nat} {w : Int} {m : jM} {Q : Int → jM → Prop} (h : Inv m) (hd : 20 ≤ d) (hQ : ∀ m', Inv m' → cQt m m' → Q (vCt m' w) m') : jK d zX10_count [jO 10 0, jI w] m Q := by
  have st := hQ m h (cQt_r m)
  unfold vCt at st
  have hct := h.1
  refine jK_deep (show 19 + 1 ≤ d by omega) (gX10_count 19 w m Q ⟨fun g => s_bc hct.1 ?_, fun g => s_bc hct.2.1 ?_, fun g => ?_, fun g => s_marked ?_, fun g => s_marked ?_, fun g => s_owned ?_, fun g => ?_, fun g => ?_, fun g => ?_, trivial⟩)
  · rw [if_pos (by omega)] at st
    have e : pc8 (m 1 0) = pcn (rJ (m 104)) 8 := pcn_ext (fun j j1 j2 => Inv_J h j1 (by omega))
    rw [e]; exact st
  · rw [if_neg (by omega), if_pos (by omega)] at st
    have e : pc8 (m 1 1) = pcn (rC (m 104)) 8 := pcn_ext (fun j j1 j2 => Inv_C h j1 (by omega))
    rw [e]; exact st
  · refine r_plan h (fun m1 h1 p1 pl1 q1 => jK_deep (show 0 + 2 ≤ 19 by omega) (s_openPairs (E := iO m1) pl1.2.1 pl1.2.2.1.2.1 ?_)) (by omega)
    have := hQ m1 h1 q1
    unfold vCt at this
    rw [if_neg (by omega), if_neg (by omega), if_pos (by omega)] at this
    exact this
  · rw [if_neg (by omega), if_neg (by omega), if_neg (by omega), if_pos (by omega)] at st
    have e : pcn (fun p => decide (m 4 p = 2)) 64 = pcn (fun p => decide (m 107 p = 2)) 64 := pcn_ext (fun p p1 p2 => by rw [(h.2.2.2.1 p p1 (by omega)).1])
    rw [e]; exact st
  · rw [if_neg (by omega), if_neg (by omega), if_neg (by omega), if_neg (by omega), if_pos (by omega)] at st
    have e : pcn (fun p => decide (m 4 p = 1)) 64 = pcn (fun p => decide (m 107 p = 1)) 64 := pcn_ext (fun p p1 p2 => by rw [(h.2.2.2.1 p p1 (by omega)).1])
    rw [e]; exact st
  · rw [if_neg (by omega), if_neg (by omega), if_neg (by omega), if_neg (by omega), if_neg (by omega), if_pos (by omega)] at st
    have e : pcn (fun p => decide (m 3 p ≠ -1)) 64 = pcn (fun p => decide (m 106 p ≠ -1)) 64 := pcn_ext (fun p p1 p2 => by rw [(h.2.2.1 p p1 (by omega)).1])
    rw [e]; exact st
  · rw [if_neg (by omega), if_neg (by omega), if_neg (by omega), if_neg (by omega), if_neg (by omega), if_neg (by omega), if_pos (by omega), h.2.2.2.2.2.2.2.1.1] at st
    exact st
  · rw [if_neg (by omega), if_neg (by omega), if_neg (by omega), if_neg (by omega), if_neg (by omega), if_neg (by omega), if_neg (by omega), if_pos (by omega), h.2.2.2.2.2.2.1.1] at st
    exact st
  · rw [if_neg (by omega), if_neg (by omega), if_neg (by omega), if_neg (by omega), if_neg (by omega), if_neg (by omega), if_neg (by omega), if_neg (by omega)] at st
    exact st
theorem q_count {d : Nat} {w : Int} {m : jM} {Q : Int → jM → Prop} (h : Inv m) (hd : 320 ≤ d) (hQ : ∀ m', rQt m m' → Q (vCt m w) m') : jK d zX11_count [jO 11 103, jI w] m Q := by
  have st := hQ m (rQt_r m)
  unfold vCt at st
  have hct := h.1
  refine jK_deep (show 319 + 1 ≤ d by omega) (gX11_count 319 w m Q ⟨fun g => ?_, fun g => ?_, fun g => ?_, fun g => s_marksOf ?_, fun g => s_marksOf ?_, fun g => ?_, fun g => ?_, fun g => ?_, fun g => ?_, trivial⟩)
  · rw [if_pos (by omega)] at st
    have loop : ∀ (k : Nat) (i : Int), 0 ≤ i → i + k = 8 → aX11_count_50 319 (pcn (rJ (m 104)) i.toNat) i m Q := by
      intro k
      induction k with
      | zero =>
        intro i i0 ik
        refine gX11_count_50 319 _ i m Q ⟨fun q => by omega, fun _ => ?_⟩
        rw [show i = 8 by omega]
        exact st
      | succ k ih =>
        intro i i0 ik
        have n := ih (i + 1) (by omega) (by omega)
        have b := pcn_nn (rJ (m 104)) i.toNat
        rw [pcn_s _ _ i0] at n
        refine gX11_count_50 319 _ i m Q ⟨fun q => ⟨by omega, ?_⟩, fun q => by omega⟩
        have e := (hct.2.2 i i0 (by omega)).1
        have e2 := Inv_J h i0 (show i < 8 by omega)
        rw [w32_id (z := i + 1) (by omega) (by omega), e, e2]
        by_cases g2 : rJ (m 104) i = true
        · rw [if_pos g2] at n ⊢; rw [w32_id (by omega) (by omega)]; exact n
        · rw [if_neg g2] at n ⊢; rw [w32_id (by omega) (by omega)]; exact n
    exact loop 8 0 (by omega) (by omega)
  · rw [if_neg (by omega), if_pos (by omega)] at st
    exact jK_deep (show 0 + 3 ≤ 319 by omega) (s_casesMany st)
  · refine q_costs h (by omega) (fun m1 h1 q1 al _ => jK_deep (show 0 + 1 ≤ 319 by omega) (s_openMany (E := iO m) al.2.1 ?_))
    have := hQ m1 q1
    unfold vCt at this
    rw [if_neg (by omega), if_neg (by omega), if_pos (by omega)] at this
    exact this
  · rw [if_neg (by omega), if_neg (by omega), if_neg (by omega), if_pos (by omega)] at st
    exact st
  · rw [if_neg (by omega), if_neg (by omega), if_neg (by omega), if_neg (by omega), if_pos (by omega)] at st
    exact st
  · rw [if_neg (by omega), if_neg (by omega), if_neg (by omega), if_neg (by omega), if_neg (by omega), if_pos (by omega)] at st
    have loop : ∀ (k : Nat) (i : Int), 0 ≤ i → i + k = 64 → aX11_count_101 319 (pcn (fun p => decide (m 106 p ≠ -1)) i.toNat) i m Q := by
      intro k
      induction k with
      | zero =>
        intro i i0 ik
        refine gX11_count_101 319 _ i m Q ⟨fun q => by omega, fun _ => ?_⟩
        rw [show i = 64 by omega]
        exact st
      | succ k ih =>
        intro i i0 ik
        have n := ih (i + 1) (by omega) (by omega)
        have b := pcn_nn (fun p => decide (m 106 p ≠ -1)) i.toNat
        rw [pcn_s _ _ i0] at n
        refine gX11_count_101 319 _ i m Q ⟨fun q => ⟨by omega, fun g => ?_, fun g => ?_⟩, fun q => by omega⟩ <;> rw [w32_id (z := i + 1) (by omega) (by omega)]
        · rw [if_neg (by simp [g]), Int.add_zero] at n; exact n
        · rw [if_pos (by simp [g])] at n; rw [w32_id (by omega) (by omega)]; exact n
    exact loop 64 0 (by omega) (by omega)
  · rw [if_neg (by omega), if_neg (by omega), if_neg (by omega), if_neg (by omega), if_neg (by omega), if_neg (by omega), if_pos (by omega)] at st
    exact st
  · rw [if_neg (by omega), if_neg (by omega), if_neg (by omega), if_neg (by omega), if_neg (by omega), if_neg (by omega), if_neg (by omega), if_pos (by omega)] at st
    exact st
  · rw [if_neg (by omega), if_neg (by omega), if_neg (by omega), if_neg (by omega), if_neg (by omega), if_neg (by omega), if_neg (by omega), if_neg (by omega)] at st
    exact st

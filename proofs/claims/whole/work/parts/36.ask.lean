/-! kind, room, without, next -/
theorem cw_0 {o : Int → Int → Bool} {b : Int → Int → Int} {C : Int → Bool} {j c : Int} (j1 : 0 ≤ j) (c1 : 0 ≤ c) (c2 : c < 8) (h : ¬ o j c = true) : cw o b C 8 0 j c = 0 := by
  unfold cw
  rw [if_pos (by omega)]
  have : (bst o b C 8 0).filter (fun l => decide (l.getD (c - (8 - ((8 : Nat) : Int))).toNat (-1) = j)) = [] := by
    refine flt_nil (fun l hl => ?_)
    have hm : l ∈ mts o C 8 0 := (List.mem_filter.mp hl).1
    rw [show (c - (8 - ((8 : Nat) : Int))).toNat = c.toNat by omega]
    rcases m8_at hm c1 c2 with g | g
    · rw [g.2]; simp; omega
    · rw [decide_eq_false_iff_not]
      intro w
      rw [w] at g
      exact h g.2.2
  rw [this]
  rfl
noncomputable def vCw (m : jM) (j c : Int) : Int := cw (iO m) (rBu m) (rC (m 104)) 8 0 j c
noncomputable def vKd (m : jM) (j c : Int) : Int := if vCw m j c = 0 then 0 else if vCw m j c = (vD m).2 then 2 else 1
def pr8 (j c : Int) : Prop := (0 ≤ j ∧ j ≤ 7) ∧ 0 ≤ c ∧ c ≤ 7
theorem iO_C {m : jM} {j c : Int} (h : iO m j c = true) : rC (m 104) c = true := by
  unfold iO at h
  rw [gO_iff] at h
  exact h.2.1
theorem c_kind {d : Nat} {j c : Int} {m : jM} {Q : Int → jM → Prop} (h : Inv m) (hd : 20 ≤ d) (hB : ¬ pr8 j c → Q (-2) m) (hS : pr8 j c → ∀ m', Inv m' → cQt m m' → (vD m').2 = 0 → Q (-3) m') (hQ : pr8 j c → ∀ m', Inv m' → cQt m m' → ¬ (vD m').2 = 0 → Q (vKd m' j c) m') : jK d zX10_kind [jO 10 0, jI j, jI c] m Q := by
  refine jK_deep (show 19 + 1 ≤ d by omega) (gX10_kind 19 j c m Q (s_isPairC ⟨fun g => ?_, fun g => ?_⟩))
  · rw [bI_0] at g; exact hB g
  · rw [bI_0, Classical.not_not] at g
    refine r_shares h (fun m1 h1 p1 pl1 ss1 q1 => ?_) (by omega)
    rw [w32_id (z := j * 8) (by omega) (by omega), w32_id (by omega) (by omega), (show m1 59 0 = (vD m1).2 from (pl_v pl1).2), show j * 8 + c = 8 * j + c by omega, ss1 j c (by omega) (by omega) (by omega) (by omega)]
    refine ⟨by omega, fun w => hS g m1 h1 q1 w, fun w => ⟨by omega, fun w2 => ?_, fun w2 => ⟨fun w3 => ?_, fun w3 => ?_⟩⟩⟩
    all_goals
      have := hQ g m1 h1 q1 w
      unfold vKd vCw at this
      first
        | rw [if_pos w2] at this; exact this
        | rw [if_neg w2, if_pos w3] at this; exact this
        | rw [if_neg w2, if_neg w3] at this; exact this
theorem q_kind {d : Nat} {j c : Int} {m : jM} {Q : Int → jM → Prop} (h : Inv m) (hd : 320 ≤ d) (hB : ¬ pr8 j c → Q (-2) m) (hS : pr8 j c → ∀ m', rQt m m' → (vD m).2 = 0 → Q (-3) m') (hQ : pr8 j c → ∀ m', rQt m m' → ¬ (vD m).2 = 0 → Q (vKd m j c) m') : jK d zX11_kind [jO 11 103, jI j, jI c] m Q := by
  refine jK_deep (show 319 + 1 ≤ d by omega) (gX11_kind 319 j c m Q (s_isPair ⟨fun g => ?_, fun g => ?_⟩))
  · rw [bI_0] at g; exact hB g
  · rw [bI_0, Classical.not_not] at g
    have hB0 := Inv_B h
    refine q_costs h (by omega) (fun m1 h1 q1 al _ => q_least al (Inv_B h) (by omega) (fun m2 f2 q2 r2 e2 => ⟨fun w => hS g m2 (rQt_t q1 q2) ((vD_F h).mp w), fun w => ?_⟩))
    have al2 : alk (rO (m2 128)) (rB (m2 128)) (rC (m2 104)) (iO m) (rBu m) (rC (m 104)) := by rw [f2 128 (by omega) (by omega), f2 104 (by omega) (by omega)]; exact al
    have w0 : ¬ (vD m).2 = 0 := fun x => w ((vD_F h).mpr x)
    refine jK_deep (show 0 + 3 ≤ 319 by omega) (s_with (alk_B (alk_s al2) hB0) (by omega) (by omega) (fun m3 f3 e3 => ?_))
    have f3' : ∀ q, q ≠ 128 → q ≠ 129 → q ≠ 130 → q ≠ 132 → m3 q = m2 q := f3
    have q3 : rQt m m3 := rQt_t q1 (rQt_t q2 ⟨fun q a b c => f3' q (by omega) (by omega) (by omega) (by omega), fun j _ => by rw [f3' 103 (by omega) (by omega) (by omega) (by omega)]⟩)
    have eo : rO (m2 128) j c = iO m j c := al2.2.1 j c (by omega) (by omega) (by omega) (by omega)
    have al3 : alk (oW (rO (m2 128)) j c) (rB (m2 128)) (rC (m2 104)) (oW (iO m) j c) (rBu m) (rC (m 104)) := by
      refine ⟨al2.1, fun j' c' a b x y => ?_, fun j' c' a b x y z => al2.2.2 j' c' a b x y (oW_o z)⟩
      unfold oW
      rw [al2.2.1 j' c' a b x y]
    by_cases ho : iO m j c = true
    · rw [if_pos (by rw [eo]; exact ho), alk_dp al3 0 (Nat.le_refl 8) 0]
      have hC := iO_C ho
      have wi := with_iff (j := j) hB0 (show 0 ≤ c ∧ c < 8 by omega) hC w
      have li := lack_iff (j := j) hB0 (show 0 ≤ c ∧ c < 8 by omega) hC w
      have cr := cw_r (j0 := j) (c0 := c) (C := rC (m 104)) hB0 (Nat.le_refl 8) mk_0
      refine ⟨fun g2 => ?_, fun g2 => ?_⟩
      · have e129 : ∀ j' c' : Int, 0 ≤ j' → j' < 8 → 0 ≤ c' → c' < 8 → m3 128 (8 * j' + c') = m2 128 (8 * j' + c') := fun j' c' a b x y => e3 _ (by omega) (by omega)
        have al4 : alk (rO (m3 128)) (rB (m3 128)) (rC (m3 104)) (iO m) (rBu m) (rC (m 104)) := by
          refine alk_t ⟨fun c' x y => by rw [f3' 104 (by omega) (by omega) (by omega) (by omega)], fun j' c' a b x y => ?_, fun j' c' a b x y _ => ?_⟩ al2
          · unfold rO; rw [e129 j' c' a b x y]
          · unfold rB; rw [e129 j' c' a b x y]
        refine jK_deep (show 0 + 3 ≤ 319 by omega) (s_lacking (alk_B (alk_s al4) hB0) (by omega) (by omega) (fun m4 f4 e4 => ?_))
        have f4' : ∀ q, q ≠ 128 → q ≠ 129 → q ≠ 130 → q ≠ 132 → m4 q = m3 q := f4
        have q4 : rQt m m4 := rQt_t q3 ⟨fun q a b c => f4' q (by omega) (by omega) (by omega) (by omega), fun j _ => by rw [f4' 103 (by omega) (by omega) (by omega) (by omega)]⟩
        have al5 : alk (oL (rO (m3 128)) j c) (rB (m3 128)) (rC (m3 104)) (oL (iO m) j c) (rBu m) (rC (m 104)) := by
          refine ⟨al4.1, fun j' c' a b x y => ?_, fun j' c' a b x y z => al4.2.2 j' c' a b x y (oL_o z)⟩
          unfold oL
          rw [al4.2.1 j' c' a b x y]
        rw [alk_dp al5 0 (Nat.le_refl 8) 0]
        have h0 := wi.mp g2
        have := hQ g m4 q4 w0
        unfold vKd vCw at this
        rw [if_neg (by omega)] at this
        refine ⟨fun g3 => ?_, fun g3 => ?_⟩
        · have := li.mp g3
          rw [if_neg (by unfold vD; omega)] at *
          assumption
        · have h3 : ¬ cw (iO m) (rBu m) (rC (m 104)) 8 0 j c < (dpt 0 (iO m) (rBu m) (rC (m 104)) 8 0).2 := fun x => g3 (li.mpr x)
          rw [if_pos (by unfold vD; omega)] at this
          exact this
      · have h0 : ¬ 0 < cw (iO m) (rBu m) (rC (m 104)) 8 0 j c := fun x => g2 (wi.mpr x)
        have := hQ g m3 q3 w0
        unfold vKd vCw at this
        rw [if_pos (by omega)] at this
        exact this
    · rw [if_neg (by rw [eo]; exact ho)]
      refine ⟨fun g2 => absurd g2.symm w, fun _ => ?_⟩
      have := hQ g m3 q3 w0
      unfold vKd vCw at this
      rw [if_pos (cw_0 (by omega) (by omega) (by omega) ho)] at this
      exact this
/-! room -/
noncomputable def vRm (m : jM) (j c w : Int) : Int := if w = 0 then (if iO m j c = true then toN (dpt 0 (oW (iO m) j c) (rBu m) (rC (m 104)) 8 0).1 else -4611686018427387904) else toN (dpt 0 (oL (iO m) j c) (rBu m) (rC (m 104)) 8 0).1
theorem vRm_q {m m' : jM} (h : ∀ q, 104 ≤ q → q ≤ 117 → m' q = m q) (j c w : Int) : vRm m' j c w = vRm m j c w := by
  unfold vRm
  rw [iO_q h, rBu_q (fun q a b => h q (by omega) b), h 104 (by omega) (by omega)]
theorem al_th {m m1 : jM} (pl : iPl m) (e62 : m1 62 0 = m 54 0) (e64 : ∀ x : Int, 0 ≤ x → x < 64 → m1 64 x = m 56 x) (e65 : ∀ c : Int, 0 ≤ c → c < 8 → m1 65 c = m 57 c) : alk (pO (m1 65)) (rB (m1 64)) (bt (m1 62 0)) (iO m) (rBu m) (rC (m 104)) := by
  refine alk_t ⟨fun c _ _ => by rw [e62], fun j c j1 j2 c1 c2 => ?_, fun j c j1 j2 c1 c2 _ => ?_⟩ pl.2.2.1
  · unfold pO; rw [e65 c c1 c2]
  · unfold rB; rw [e64 _ (by omega) (by omega)]
theorem c_room {d : Nat} {j c w : Int} {m : jM} {Q : Int → jM → Prop} (h : Inv m) (hd : 20 ≤ d) (hB : ¬ (pr8 j c ∧ 0 ≤ w ∧ w ≤ 1) → Q (-4611686018427387904) m) (hQ : (pr8 j c ∧ 0 ≤ w ∧ w ≤ 1) → ∀ m', Inv m' → cQt m m' → Q (vRm m' j c w) m') : jK d zX10_room [jO 10 0, jI j, jI c, jI w] m Q := by
  refine jK_deep (show 19 + 1 ≤ d by omega) (gX10_room 19 j c w m Q (s_isPairC ⟨fun g => ?_, fun g => ⟨fun g2 => hB (by omega), fun g2 => ⟨fun g3 => hB (by omega), fun g3 => ?_⟩⟩⟩))
  · rw [bI_0] at g; exact hB (fun x => g x.1)
  · rw [bI_0, Classical.not_not] at g
    have gg : pr8 j c ∧ 0 ≤ w ∧ w ≤ 1 := ⟨g, by omega, by omega⟩
    have j8 : 0 ≤ j ∧ j < 8 := by omega
    have c8 : 0 ≤ c ∧ c < 8 := by omega
    refine r_plan h (fun m1 h1 p1 pl1 q1 => ?_) (by omega)
    have hB1 := Inv_B h1
    have eo : pO (m1 (54 + 3)) j c = iO m1 j c := pl1.2.2.1.2.1 j c j8.1 j8.2 c8.1 c8.2
    have main : (w = 0 → iO m1 j c = true) → aX10_room_45 19 j c w m1 Q := by
      intro hop
      refine gX10_room_45 19 j c w m1 Q (jK_deep (show 0 + 1 ≤ 19 by omega) (s_take62 (fun m2 f2 e62 _ e64 e65 => ?_)))
      have al := al_th pl1 e62 e64 e65
      have b62 : mk8 (m2 62 0) := by rw [e62, pl1.1]; exact h1.1.2.1
      have r65 : ∀ c : Int, 0 ≤ c → c < 8 → mk8 (m2 65 c) := fun c a b => by rw [e65 c a b]; exact pl1.2.1 c a b
      have fin : ∀ (mm m3 : jM) (o : Int → Int → Bool), (∀ q, q ≠ 65 → mm q = m2 q) → (∀ q, q ≠ 62 → q ≠ 63 → q ≠ 66 → q ≠ 67 → m3 q = mm q) → m3 66 0 = vRm m1 j c w → Q (m3 66 0) m3 := by
        intro mm m3 o fm f3 e3
        have fr : ∀ q, q ≠ 62 → q ≠ 63 → q ≠ 64 → q ≠ 65 → q ≠ 66 → q ≠ 67 → m3 q = m1 q := fun q a b c d e f => by rw [f3 q a b e f, fm q d, f2 q a c d]
        have h3 : Inv m3 := Inv_cq h1 (fun q _ a => fr q (by omega) (by omega) (by omega) (by omega) (by omega) (by omega)) (fr 0 (by omega) (by omega) (by omega) (by omega) (by omega) (by omega))
        have := hQ gg m3 h3 (cQt_t q1 ⟨fun q a b => fr q (by omega) (by omega) (by omega) (by omega) (by omega) (by omega), fun j _ => by rw [fr 0 (by omega) (by omega) (by omega) (by omega) (by omega) (by omega)]⟩)
        rw [vRm_q (fun q a b => fr q (by omega) (by omega) (by omega) (by omega) (by omega) (by omega)), ← e3] at this
        exact this
      refine ⟨fun w0 => ⟨by omega, ?_⟩, fun w0 => ⟨by omega, by omega, ?_⟩⟩
      · have alW : alk (pO (jUp m2 65 c (iShl 1 j) 65)) (rB (jUp m2 65 c (iShl 1 j) 64)) (bt (jUp m2 65 c (iShl 1 j) 62 0)) (oW (iO m1) j c) (rBu m1) (rC (m1 104)) := by
          rw [up_ne (show ¬ (64 : Int) = 65 by omega), up_ne (show ¬ (62 : Int) = 65 by omega)]
          have ho : ∀ j' c' : Int, 0 ≤ j' → j' < 8 → 0 ≤ c' → c' < 8 → pO (jUp m2 65 c (iShl 1 j) 65) j' c' = oW (iO m1) j c j' c' := by
            intro j' c' a b x y
            unfold oW
            rw [← al.2.1 j' c' a b x y]
            unfold pO
            rw [up_eq]
            by_cases hc : c' = c
            · rw [if_pos hc, bt_one (by omega) (by omega), hc]
              have e1 : bt (m2 65 c) j = true := by rw [← hop w0, ← al.2.1 j c j8.1 j8.2 c8.1 c8.2]; rfl
              by_cases hj : j' = j
              · rw [hj, e1]; simp
              · simp [hj]
            · rw [if_neg hc]; simp [hc]
          exact ⟨al.1, ho, fun j' c' a b x y z => al.2.2 j' c' a b x y (by rw [al.2.1 j' c' a b x y]; rw [ho j' c' a b x y] at z; exact oW_o z)⟩
        refine th_weigh (by rw [up_ne (by omega)]; exact b62) (fun c' a b => ?_) (alk_B (alk_s alW) (dpB_w hB1 (fun j c => oW_o))) (alk_dp alW 0 (Nat.le_refl 8) 0) (by omega) (fun m3 f3 _ e3 => ⟨by omega, fin _ m3 (oW (iO m1) j c) (fun q hq => up_ne hq) f3 ?_⟩)
        · rw [up_eq]
          split
          · exact mk_one j8
          · exact r65 c' a b
        · rw [e3]; unfold vRm; rw [if_pos w0, if_pos (hop w0)]
      · have alL : alk (pO (jUp m2 65 c (iAnd (m2 65 c) (iXor (iShl 1 j) (-1))) 65)) (rB (jUp m2 65 c (iAnd (m2 65 c) (iXor (iShl 1 j) (-1))) 64)) (bt (jUp m2 65 c (iAnd (m2 65 c) (iXor (iShl 1 j) (-1))) 62 0)) (oL (iO m1) j c) (rBu m1) (rC (m1 104)) := by
          rw [up_ne (show ¬ (64 : Int) = 65 by omega), up_ne (show ¬ (62 : Int) = 65 by omega)]
          have ho : ∀ j' c' : Int, 0 ≤ j' → j' < 8 → 0 ≤ c' → c' < 8 → pO (jUp m2 65 c (iAnd (m2 65 c) (iXor (iShl 1 j) (-1))) 65) j' c' = oL (iO m1) j c j' c' := by
            intro j' c' a b x y
            unfold oL
            rw [← al.2.1 j' c' a b x y]
            unfold pO
            rw [up_eq]
            by_cases hc : c' = c
            · rw [if_pos hc, bt_and, bt_not (by omega), bt_one (by omega) (by omega), hc]
              simp
            · rw [if_neg hc]; simp [hc]
          exact ⟨al.1, ho, fun j' c' a b x y z => al.2.2 j' c' a b x y (by rw [al.2.1 j' c' a b x y]; rw [ho j' c' a b x y] at z; exact oL_o z)⟩
        refine th_weigh (by rw [up_ne (by omega)]; exact b62) (fun c' a b => ?_) (alk_B (alk_s alL) (dpB_w hB1 (fun j c => oL_o))) (alk_dp alL 0 (Nat.le_refl 8) 0) (by omega) (fun m3 f3 _ e3 => ⟨by omega, fin _ m3 (oL (iO m1) j c) (fun q hq => up_ne hq) f3 ?_⟩)
        · rw [up_eq]
          split
          · exact mk_andl (r65 c c8.1 c8.2)
          · exact r65 c' a b
        · rw [e3]; unfold vRm; rw [if_neg w0]
    refine ⟨fun w0 => s_isOpen (p := 54) (by omega) (by omega) ⟨fun g4 => ?_, fun g4 => ?_⟩, fun w0 => main (fun x => absurd x w0)⟩ <;> rw [bI_0, eo] at g4
    · have := hQ gg m1 h1 q1
      unfold vRm at this
      rw [if_pos w0, if_neg g4] at this
      exact this
    · exact main (fun _ => Classical.not_not.mp g4)
theorem al_oW {o o' : Int → Int → Bool} {b b' : Int → Int → Int} {C C' : Int → Bool} (al : alk o b C o' b' C') (j c : Int) : alk (oW o j c) b C (oW o' j c) b' C' := by
  refine ⟨al.1, fun j' c' a b x y => ?_, fun j' c' a b x y z => al.2.2 j' c' a b x y (oW_o z)⟩
  unfold oW
  rw [al.2.1 j' c' a b x y]
theorem al_oL {o o' : Int → Int → Bool} {b b' : Int → Int → Int} {C C' : Int → Bool} (al : alk o b C o' b' C') (j c : Int) : alk (oL o j c) b C (oL o' j c) b' C' := by
  refine ⟨al.1, fun j' c' a b x y => ?_, fun j' c' a b x y z => al.2.2 j' c' a b x y (oL_o z)⟩
  unfold oL
  rw [al.2.1 j' c' a b x y]
theorem q_room {d : Nat} {j c w : Int} {m : jM} {Q : Int → jM → Prop} (h : Inv m) (hd : 320 ≤ d) (hB : ¬ (pr8 j c ∧ 0 ≤ w ∧ w ≤ 1) → Q (-4611686018427387904) m) (hQ : (pr8 j c ∧ 0 ≤ w ∧ w ≤ 1) → ∀ m', rQt m m' → Q (vRm m j c w) m') : jK d zX11_room [jO 11 103, jI j, jI c, jI w] m Q := by
  refine jK_deep (show 319 + 1 ≤ d by omega) (gX11_room 319 j c w m Q (s_isPair ⟨fun g => ?_, fun g => s_in ⟨fun g2 => ?_, fun g2 => ?_⟩⟩))
  · rw [bI_0] at g; exact hB (fun x => g x.1)
  · rw [bI_0] at g2; exact hB (fun x => g2 x.2)
  · rw [bI_0, Classical.not_not] at g g2
    have gg : pr8 j c ∧ 0 ≤ w ∧ w ≤ 1 := ⟨g, g2⟩
    have hB0 := Inv_B h
    refine q_costs h (by omega) (fun m1 h1 q1 al _ => ⟨fun w0 => ?_, fun w0 => ?_⟩)
    · refine jK_deep (show 0 + 3 ≤ 319 by omega) (s_with (alk_B (alk_s al) hB0) (by omega) (by omega) (fun m3 f3 e3 => s_toldOr ?_))
      have f3' : ∀ q, q ≠ 128 → q ≠ 129 → q ≠ 130 → q ≠ 132 → m3 q = m1 q := f3
      have q3 : rQt m m3 := rQt_t q1 ⟨fun q a b c => f3' q (by omega) (by omega) (by omega) (by omega), fun j _ => by rw [f3' 103 (by omega) (by omega) (by omega) (by omega)]⟩
      rw [al.2.1 j c (by omega) (by omega) (by omega) (by omega), alk_dp (al_oW al j c) 0 (Nat.le_refl 8) 0]
      have := hQ gg m3 q3
      unfold vRm at this
      rw [if_pos w0] at this
      by_cases ho : iO m j c = true
      · rw [if_pos ho] at this ⊢; exact this
      · rw [if_neg ho] at this ⊢; rw [toN_F]; exact this
    · refine jK_deep (show 0 + 3 ≤ 319 by omega) (s_lacking (alk_B (alk_s al) hB0) (by omega) (by omega) (fun m3 f3 e3 => s_toldOr ?_))
      have f3' : ∀ q, q ≠ 128 → q ≠ 129 → q ≠ 130 → q ≠ 132 → m3 q = m1 q := f3
      have q3 : rQt m m3 := rQt_t q1 ⟨fun q a b c => f3' q (by omega) (by omega) (by omega) (by omega), fun j _ => by rw [f3' 103 (by omega) (by omega) (by omega) (by omega)]⟩
      rw [alk_dp (al_oL al j c) 0 (Nat.le_refl 8) 0]
      have := hQ gg m3 q3
      unfold vRm at this
      rw [if_neg w0] at this
      exact this

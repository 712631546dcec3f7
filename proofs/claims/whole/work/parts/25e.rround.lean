/-! the reference's rounds: slack, rise, isLast -/
theorem s_slackR {d : Nat} {j c : Int} {s : (Int → Int) × (Int → Int)} {m : jM} {Q : Int → jM → Prop} (hj : 0 ≤ j ∧ j < 8) (hc : 0 ≤ c ∧ c < 8) (h1 : m 136 j = s.1 j) (h2 : m 137 c = s.2 c) (h : Q (rdK (rB (m 128)) s j c) m) : jK (d + 1) zX11_slack [jO 11 103, jI j, jI c] m Q := by
  have e1 : w32 (w32 (8 * j) + c) = 8 * j + c := by simp (disch := omega) only [w32_id]
  refine gX11_slack d j c m Q ⟨by omega, hj, hc, ?_⟩
  rw [e1, h1, h2]
  exact h
theorem s_rise {d : Nat} {A B : Int} {s : (Int → Int) × (Int → Int)} {m : jM} {Q : Int → jM → Prop} (hA : m 103 62 = A) (hB : m 103 63 = B) (h1 : ∀ j : Int, 0 ≤ j → j < 8 → m 136 j = s.1 j) (h2 : ∀ c : Int, 0 ≤ c → c < 8 → m 137 c = s.2 c)
    (h : Q (rdV (rO (m 128)) (rB (m 128)) s A B 64 0 (-1)) m) : jK (d + 2) zX11_rise [jO 11 103] m Q := by
  have loop : ∀ (r : Nat) (v p : Int), 0 ≤ p → p + r = 64 → rdV (rO (m 128)) (rB (m 128)) s A B r p v = rdV (rO (m 128)) (rB (m 128)) s A B 64 0 (-1) → aX11_rise_6 (d + 1) v p m Q := by
    intro r
    induction r with
    | zero =>
      intro v p hp hr e
      refine gX11_rise_6 (d + 1) v p m Q ⟨fun q => by omega, fun _ => ?_⟩
      rw [← e] at h
      exact h
    | succ r ih =>
      intro v p hp hr e
      have ep : w32 (p + 1) = p + 1 := w32_id (by omega) (by omega)
      have ed : iDiv p 8 = p / 8 := iDiv_nn hp (by omega) (by omega)
      have er : iRem p 8 = p % 8 := iRem_nn hp
      have hj : 0 ≤ p / 8 ∧ p / 8 < 8 := by omega
      have hc : 0 ≤ p % 8 ∧ p % 8 < 8 := by omega
      have hO : rO (m 128) (p / 8) (p % 8) = decide (m 128 p ≠ -1) := by unfold rO; rw [show 8 * (p / 8) + p % 8 = p by omega]
      have e2 : rdV (rO (m 128)) (rB (m 128)) s A B (r + 1) p v = rdV (rO (m 128)) (rB (m 128)) s A B r (p + 1) (if rO (m 128) (p / 8) (p % 8) = true ∧ bt A (p % 8) = true ∧ bt B (p / 8) = false then (if v = -1 then rdK (rB (m 128)) s (p / 8) (p % 8) else min v (rdK (rB (m 128)) s (p / 8) (p % 8))) else v) := rfl
      rw [e2] at e
      have skip : ¬ (rO (m 128) (p / 8) (p % 8) = true ∧ bt A (p % 8) = true ∧ bt B (p / 8) = false) → aX11_rise_6 (d + 1) v (w32 (p + 1)) m Q := by
        intro hn
        rw [if_neg hn] at e
        rw [ep]
        exact ih v (p + 1) (by omega) (by omega) e
      have hs1 := h1 _ hj.1 hj.2
      have hs2 := h2 _ hc.1 hc.2
      refine gX11_rise_6 (d + 1) v p m Q ⟨fun _ => ⟨by omega, by omega, by omega, fun q => skip ?_, fun q => ⟨fun q2 => skip ?_, fun q2 => ⟨fun q3 => skip ?_, fun q3 => ?_⟩⟩⟩, fun q => by omega⟩
      · rw [hO, q]; simp
      · rw [hA, er, bt_sh0 (by omega)] at q2
        rw [q2]; simp
      · rw [hB, ed, bt_shr (by omega)] at q3
        rw [q3]; simp
      · rw [hA, er, bt_sh0 (by omega)] at q2
        rw [hB, ed, bt_shr (by omega)] at q3
        rw [if_pos ⟨by rw [hO]; simpa using q, by simpa using q2, by simpa using q3⟩] at e
        rw [ed, er, ep]
        refine ⟨fun q4 => s_slackR (s := s) hj hc hs1 hs2 ?_, fun q4 => s_slackR (s := s) hj hc hs1 hs2 ⟨fun q5 => s_slackR (s := s) hj hc hs1 hs2 ?_, fun q5 => ?_⟩⟩
        · rw [if_pos q4] at e
          exact ih _ (p + 1) (by omega) (by omega) e
        · rw [if_neg q4, show min v (rdK (rB (m 128)) s (p / 8) (p % 8)) = rdK (rB (m 128)) s (p / 8) (p % 8) by omega] at e
          exact ih _ (p + 1) (by omega) (by omega) e
        · rw [if_neg q4, show min v (rdK (rB (m 128)) s (p / 8) (p % 8)) = v by omega] at e
          exact ih _ (p + 1) (by omega) (by omega) e
  exact gX11_rise (d + 1) m Q (loop 64 (-1) 0 (by omega) rfl rfl)
def rdGi (O : Int → Int → Bool) (b : Int → Int → Int) (C : Int → Bool) (U : Int) (s : (Int → Int) × (Int → Int)) (m : jM) (i : Int) : Prop :=
  m 138 i = (rdM O b C s).1 ∧ m 139 i = (rdM O b C s).2.1 ∧ m 140 i = (rdM O b C s).2.2 ∧ m 146 i = U ∧ m 142 i = rdR O b C s ∧ m 141 i = rdT O b s ∧
  ∀ k : Int, 0 ≤ k → k < 8 → m 143 (16 * i + k) = s.1 k ∧ m 143 (16 * i + 8 + k) = if bt U k = true then s.2 k else 0
def rdCells (q : Int) : Prop := q = 103 ∨ (136 ≤ q ∧ q ≤ 146)
theorem s_isLast {d : Nat} {x U : Int} {s : (Int → Int) × (Int → Int)} {m : jM} {Q : Int → jM → Prop} (hx : 0 ≤ x ∧ x < 120) (hx50 : m 103 50 = x) (hU : m 103 64 = U)
    (h1 : ∀ j : Int, 0 ≤ j → j < 8 → m 136 j = s.1 j) (h2 : ∀ c : Int, 0 ≤ c → c < 8 → m 137 c = s.2 c)
    (h : ∀ m' : jM, (∀ q, ¬ rdCells q → m' q = m q) → (∀ j, j ≠ 50 → j ≠ 61 → j ≠ 62 → j ≠ 63 → m' 103 j = m 103 j) → m' 103 50 = x + 1 → rdGi (rO (m 128)) (rB (m 128)) (rC (m 104)) U s m' x →
      (∀ q, 138 ≤ q → q ≤ 146 → q ≠ 143 → q ≠ 144 → q ≠ 145 → ∀ i, i ≠ x → m' q i = m q i) → (∀ i, (i < 16 * x ∨ 16 * x + 16 ≤ i) → m' 143 i = m 143 i) →
      (rdR (rO (m 128)) (rB (m 128)) (rC (m 104)) s ≠ -1 → ∀ j : Int, 0 ≤ j → j < 8 → m' 136 j = (rdX (rO (m 128)) (rB (m 128)) (rC (m 104)) s).1 j ∧ m' 137 j = (rdX (rO (m 128)) (rB (m 128)) (rC (m 104)) s).2 j) → Q (bI (rdR (rO (m 128)) (rB (m 128)) (rC (m 104)) s = -1)) m') : jK (d + 12) zX11_isLast [jO 11 103] m Q := by
  generalize hO : rO (m 128) = O at *
  generalize hb : rB (m 128) = b at *
  generalize hC : rC (m 104) = C at *
  -- the end: what rises
  have L231 : ∀ (r : Nat) (k : Int) (m1 : jM), 0 ≤ k → k + r = 8 → m1 103 62 = (rdM O b C s).2.1 → m1 103 63 = (rdM O b C s).2.2 → rdR O b C s ≠ -1 → (∀ q, ¬ rdCells q → m1 q = m q) → (∀ j, j ≠ 50 → j ≠ 61 → j ≠ 62 → j ≠ 63 → m1 103 j = m 103 j) → m1 103 50 = x + 1 → rdGi O b C U s m1 x →
      (∀ q, 138 ≤ q → q ≤ 146 → q ≠ 143 → q ≠ 144 → q ≠ 145 → ∀ i, i ≠ x → m1 q i = m q i) → (∀ i, (i < 16 * x ∨ 16 * x + 16 ≤ i) → m1 143 i = m 143 i) →
      (∀ j : Int, 0 ≤ j → j < 8 → m1 136 j = (if j < k then (rdX O b C s).1 j else s.1 j) ∧ m1 137 j = (if j < k then (rdX O b C s).2 j else s.2 j)) → aX11_isLast_231 (d + 11) (rdR O b C s) k m1 Q := by
    intro r
    induction r with
    | zero =>
      intro k m1 hk hr a1 a2 hv f0 f1 f2 f3 f4 f5 f6
      have fin := h m1 f0 f1 f2 f3 f4 f5 (fun _ j j1 j2 => by
        have := f6 j j1 j2
        rw [if_pos (by omega), if_pos (by omega)] at this
        exact this)
      rw [bI_f hv] at fin
      exact gX11_isLast_231 (d + 11) _ k m1 Q ⟨fun q => by omega, fun _ => ⟨fun q => absurd q hv, fun _ => fin⟩⟩
    | succ r ih =>
      intro k m1 hk hr a1 a2 hv f0 f1 f2 f3 f4 f5 f6
      have ek : w32 (k + 1) = k + 1 := w32_id (by omega) (by omega)
      have hk8 : 0 ≤ k ∧ k < 8 := by omega
      obtain ⟨g1, g2⟩ := f6 k hk8.1 hk8.2
      rw [if_neg (by omega)] at g1 g2
      have X1 : (rdX O b C s).1 k = if bt (rdM O b C s).2.2 k = true then w64 (s.1 k + rdR O b C s) else s.1 k := rfl
      have X2 : (rdX O b C s).2 k = if bt (rdM O b C s).2.1 k = true then w64 (s.2 k + rdR O b C s) else s.2 k := rfl
      -- rows 136, 137 alone change
      have go : ∀ m2 : jM, (∀ q, q ≠ 136 → q ≠ 137 → m2 q = m1 q) → (∀ j, j ≠ k → m2 136 j = m1 136 j ∧ m2 137 j = m1 137 j) → m2 136 k = (rdX O b C s).1 k → m2 137 k = (rdX O b C s).2 k → aX11_isLast_231 (d + 11) (rdR O b C s) (k + 1) m2 Q := by
        intro m2 p0 p1 p2 p3
        have k104 := p0 103 (by omega) (by omega)
        refine ih (k + 1) m2 (by omega) (by omega) (by rw [k104]; exact a1) (by rw [k104]; exact a2) hv (fun q hq => by rw [p0 q (by rintro rfl; exact hq (by unfold rdCells; omega)) (by rintro rfl; exact hq (by unfold rdCells; omega))]; exact f0 q hq) (by rw [k104]; exact f1) (by rw [k104]; exact f2) ?_ (fun q q1 q2 q3 q4 q5 i hi => by rw [p0 q (by omega) (by omega)]; exact f4 q q1 q2 q3 q4 q5 i hi) (fun i hi => by rw [p0 143 (by omega) (by omega)]; exact f5 i hi) (fun j j1 j2 => ?_)
        · unfold rdGi at f3 ⊢
          rw [p0 138 (by omega) (by omega), p0 139 (by omega) (by omega), p0 140 (by omega) (by omega), p0 146 (by omega) (by omega), p0 142 (by omega) (by omega), p0 141 (by omega) (by omega), p0 143 (by omega) (by omega)]
          exact f3
        · by_cases hj : j = k
          · rw [hj, if_pos (by omega), if_pos (by omega)]; exact ⟨p2, p3⟩
          · obtain ⟨c1, c2⟩ := p1 j hj
            obtain ⟨c3, c4⟩ := f6 j j1 j2
            rw [c1, c2, c3, c4]
            by_cases hlt : j < k
            · rw [if_pos hlt, if_pos hlt, if_pos (by omega), if_pos (by omega)]; exact ⟨rfl, rfl⟩
            · rw [if_neg hlt, if_neg hlt, if_neg (by omega), if_neg (by omega)]; exact ⟨rfl, rfl⟩
      -- the judge's
      have L270 : ∀ m2 : jM, (∀ q, q ≠ 137 → m2 q = m1 q) → (∀ j, j ≠ k → m2 137 j = m1 137 j) → m2 137 k = (rdX O b C s).2 k → aX11_isLast_270 (d + 11) (rdR O b C s) k m2 Q := by
        intro m2 p0 p1 p2
        have k104 := p0 103 (by omega)
        have k137 := p0 136 (by omega)
        refine gX11_isLast_270 (d + 11) _ k m2 Q ⟨fun q => ⟨hk8, hk8, ?_⟩, fun q => ?_⟩ <;> rw [k104, a2, bt_shr (by omega)] at q <;> rw [ek]
        · refine go _ (fun z z1 z2 => by rw [up_ne z1]; exact p0 z z2) (fun j hj => by rw [up_oth hj, up_ne (by omega), k137]; exact ⟨rfl, p1 j hj⟩) ?_ (by rw [up_ne (by omega)]; exact p2)
          rw [up_same, k137, g1, X1, if_pos q]
        · refine go m2 (fun z z1 z2 => p0 z z2) (fun j hj => ⟨by rw [k137], p1 j hj⟩) ?_ p2
          rw [k137, g1, X1, if_neg q]
      refine gX11_isLast_231 (d + 11) _ k m1 Q ⟨fun _ => ⟨fun q => absurd q hv, fun _ => ⟨fun q => ⟨hk8, hk8, ?_⟩, fun q => ?_⟩⟩, fun q => by omega⟩ <;> rw [a1, bt_shr (by omega)] at q
      · refine L270 _ (fun z z1 => up_ne z1) (fun j hj => up_oth hj) ?_
        rw [up_same, g2, X2, if_pos q]
      · refine L270 m1 (fun _ _ => rfl) (fun _ _ => rfl) ?_
        rw [g2, X2, if_neg q]
  -- prices are kept
  have L148 : ∀ (r : Nat) (k : Int) (m1 : jM), 0 ≤ k → k + r = 8 → m1 103 62 = (rdM O b C s).2.1 → m1 103 63 = (rdM O b C s).2.2 → (∀ q, ¬ rdCells q → m1 q = m q) → (∀ j, j ≠ 50 → j ≠ 61 → j ≠ 62 → j ≠ 63 → m1 103 j = m 103 j) → m1 103 50 = x + 1 →
      (m1 138 x = (rdM O b C s).1 ∧ m1 139 x = (rdM O b C s).2.1 ∧ m1 140 x = (rdM O b C s).2.2 ∧ m1 146 x = U ∧ m1 141 x = rdT O b s) → (∀ z : Int, 0 ≤ z → z < k → m1 143 (16 * x + z) = s.1 z ∧ m1 143 (16 * x + 8 + z) = if bt U z = true then s.2 z else 0) →
      (∀ q, 138 ≤ q → q ≤ 146 → q ≠ 143 → q ≠ 144 → q ≠ 145 → ∀ i, i ≠ x → m1 q i = m q i) → (∀ i, (i < 16 * x ∨ 16 * x + 16 ≤ i) → m1 143 i = m 143 i) → (∀ j : Int, 0 ≤ j → j < 8 → m1 136 j = s.1 j ∧ m1 137 j = s.2 j) → aX11_isLast_148 (d + 11) x k m1 Q := by
    intro r
    induction r with
    | zero =>
      intro k m1 hk hr a1 a2 f0 f1 f2 f3 f3' f4 f5 f6
      have k129 := f0 128 (by unfold rdCells; omega)
      refine gX11_isLast_148 (d + 11) x k m1 Q ⟨fun q => by omega, fun _ => jK_deep (show (d + 9) + 2 ≤ d + 11 by omega) (s_rise (s := s) a1 a2 (fun j j1 j2 => (f6 j j1 j2).1) (fun j j1 j2 => (f6 j j1 j2).2) ⟨hx, ?_⟩)⟩
      rw [k129, hO, hb]
      have eR : rdV O b s (rdM O b C s).2.1 (rdM O b C s).2.2 64 0 (-1) = rdR O b C s := rfl
      rw [eR]
      have u : ∀ q, q ≠ 142 → jUp m1 142 x (rdR O b C s) q = m1 q := fun q hq => up_ne hq
      have c0 : ∀ q, ¬ rdCells q → jUp m1 142 x (rdR O b C s) q = m q := fun q hq => by rw [u q (by rintro rfl; exact hq (by unfold rdCells; omega))]; exact f0 q hq
      have c1 : ∀ j, j ≠ 50 → j ≠ 61 → j ≠ 62 → j ≠ 63 → jUp m1 142 x (rdR O b C s) 103 j = m 103 j := fun j j1 j2 j3 j4 => by rw [u 103 (by omega)]; exact f1 j j1 j2 j3 j4
      have c2 : jUp m1 142 x (rdR O b C s) 103 50 = x + 1 := by rw [u 103 (by omega)]; exact f2
      have c3 : rdGi O b C U s (jUp m1 142 x (rdR O b C s)) x := by
        unfold rdGi
        rw [u 138 (by omega), u 139 (by omega), u 140 (by omega), u 146 (by omega), u 141 (by omega), u 143 (by omega), up_same]
        exact ⟨f3.1, f3.2.1, f3.2.2.1, f3.2.2.2.1, rfl, f3.2.2.2.2, fun z z1 z2 => f3' z z1 (by omega)⟩
      have c4 : ∀ q, 138 ≤ q → q ≤ 146 → q ≠ 143 → q ≠ 144 → q ≠ 145 → ∀ i, i ≠ x → jUp m1 142 x (rdR O b C s) q i = m q i := by
        intro q q1 q2 q3 q4 q5 i hi
        by_cases hq : q = 142
        · rw [hq, up_oth hi]; exact f4 142 (by omega) (by omega) (by omega) (by omega) (by omega) i hi
        · rw [u q hq]; exact f4 q q1 q2 q3 q4 q5 i hi
      have c5 : ∀ i, (i < 16 * x ∨ 16 * x + 16 ≤ i) → jUp m1 142 x (rdR O b C s) 143 i = m 143 i := fun i hi => by rw [u 143 (by omega)]; exact f5 i hi
      by_cases hv : rdR O b C s = -1
      · have fin := h (jUp m1 142 x (rdR O b C s)) c0 c1 c2 c3 c4 c5 (fun g => absurd hv g)
        rw [bI_t hv] at fin
        exact gX11_isLast_231 (d + 11) _ 0 _ Q ⟨fun _ => ⟨fun _ => ⟨fun _ => fin, fun g => absurd hv g⟩, fun g => absurd hv g⟩, fun _ => ⟨fun _ => fin, fun g => absurd hv g⟩⟩
      · refine L231 8 0 _ (by omega) (by omega) (by rw [u 103 (by omega)]; exact a1) (by rw [u 103 (by omega)]; exact a2) hv c0 c1 c2 c3 c4 c5 (fun j j1 j2 => ?_)
        rw [u 136 (by omega), u 137 (by omega), if_neg (by omega), if_neg (by omega)]
        exact f6 j j1 j2
    | succ r ih =>
      intro k m1 hk hr a1 a2 f0 f1 f2 f3 f3' f4 f5 f6
      have ek : w32 (k + 1) = k + 1 := w32_id (by omega) (by omega)
      have hk8 : 0 ≤ k ∧ k < 8 := by omega
      have e1 : w32 (w32 (w32 (2 * x) * 8) + k) = 16 * x + k := by
        rw [w32_id (z := 2 * x) (by omega) (by omega), w32_id (z := 2 * x * 8) (by omega) (by omega), w32_id (by omega) (by omega)]; omega
      have e2 : w32 (w32 (w32 (w32 (2 * x) + 1) * 8) + k) = 16 * x + 8 + k := by
        rw [w32_id (z := 2 * x) (by omega) (by omega), w32_id (z := 2 * x + 1) (by omega) (by omega), w32_id (z := (2 * x + 1) * 8) (by omega) (by omega), w32_id (by omega) (by omega)]; omega
      have k64 : m1 103 64 = U := by rw [f1 64 (by omega) (by omega) (by omega) (by omega)]; exact hU
      obtain ⟨g1, g2⟩ := f6 k hk8.1 hk8.2
      have go : ∀ v : Int, v = (if bt U k = true then s.2 k else 0) → aX11_isLast_148 (d + 11) x (k + 1) (jUp (jUp m1 143 (16 * x + k) (s.1 k)) 143 (16 * x + 8 + k) v) Q := by
        intro v hv
        have u : ∀ q, q ≠ 143 → jUp (jUp m1 143 (16 * x + k) (s.1 k)) 143 (16 * x + 8 + k) v q = m1 q := fun q hq => by rw [up_ne hq, up_ne hq]
        have w : ∀ i, jUp (jUp m1 143 (16 * x + k) (s.1 k)) 143 (16 * x + 8 + k) v 143 i = if i = 16 * x + 8 + k then v else if i = 16 * x + k then s.1 k else m1 143 i := fun i => by rw [up_eq, up_eq]
        generalize jUp (jUp m1 143 (16 * x + k) (s.1 k)) 143 (16 * x + 8 + k) v = m2 at *
        refine ih (k + 1) m2 (by omega) (by omega) (by rw [u 103 (by omega)]; exact a1) (by rw [u 103 (by omega)]; exact a2) (fun q hq => by rw [u q (by rintro rfl; exact hq (by unfold rdCells; omega))]; exact f0 q hq) (by rw [u 103 (by omega)]; exact f1) (by rw [u 103 (by omega)]; exact f2) (by rw [u 138 (by omega), u 139 (by omega), u 140 (by omega), u 146 (by omega), u 141 (by omega)]; exact f3) (fun z z1 z2 => ?_) (fun q q1 q2 q3 q4 q5 i hi => by rw [u q q3]; exact f4 q q1 q2 q3 q4 q5 i hi) (fun i hi => by rw [w, if_neg (by omega), if_neg (by omega)]; exact f5 i hi) (by rw [u 136 (by omega), u 137 (by omega)]; exact f6)
        rw [w, w]
        by_cases hz : z = k
        · rw [hz, if_neg (by omega), if_pos rfl, if_pos rfl]; exact ⟨rfl, hv⟩
        · rw [if_neg (by omega), if_neg (by omega), if_neg (by omega), if_neg (by omega)]
          exact f3' z z1 (by omega)
      refine gX11_isLast_148 (d + 11) x k m1 Q ⟨fun _ => ⟨hk8, by omega, fun q => ⟨hk8, by omega, ?_⟩, fun q => ⟨by omega, ?_⟩⟩, fun q => by omega⟩ <;> rw [up_ne (by omega), k64, bt_shr (by omega)] at q <;> rw [e1, e2, ek, g1]
      · rw [up_ne (by omega), g2]
        exact go _ (by rw [if_pos q])
      · exact go _ (by rw [if_neg q])
  -- the tight ones
  have hE : ∀ j c : Int, rdE O b s j c = (O j c && decide (rdK b s j c = 0)) := fun _ _ => rfl
  have L4 : ∀ (r : Nat) (n c : Int) (m1 : jM), 0 ≤ c → c + r = 8 → (∀ q, q ≠ 144 → m1 q = m q) → (∀ z : Int, 0 ≤ z → z < c → mk8 (m1 144 z) ∧ ∀ j : Int, 0 ≤ j → j < 8 → bt (m1 144 z) j = rdE O b s j z) → n + sv (fun c => pcn (fun j => rdE O b s j c) 8) r c = rdT O b s → (0 ≤ n ∧ n ≤ 8 * c) → aX11_isLast_4 (d + 11) n c m1 Q := by
    intro r
    induction r with
    | zero =>
      intro n c m1 hc hr f0 f1 f2 f3
      have hc8 : c = 8 := by omega
      have u : ∀ q, q ≠ 103 → jUp m1 103 50 (x + 1) q = m1 q := fun q hq => up_ne hq
      have k50 : m1 103 50 = x := by rw [f0 103 (by omega)]; exact hx50
      have en : n = rdT O b s := by rw [← f2]; show n = n + 0; omega
      refine gX11_isLast_4 (d + 11) n c m1 Q ⟨fun q => by omega, fun _ => ?_⟩
      rw [k50, w32_id (z := x + 1) (by omega) (by omega)]
      refine jK_deep (show d + 11 ≤ d + 11 by omega) (s_marking (fun z z1 z2 => by rw [u 144 (by omega)]; exact (f1 z z1 (by omega)).1) (fun m2 n2 g0 g1 g2 g3 => ⟨hx, hx, hx, hx, hx, ?_⟩))
      rw [u 144 (by omega), u 104 (by omega), f0 104 (by omega), hC] at g2
      obtain ⟨eA, eB, eN⟩ := mMk_u (C' := fun c => C c = true) (E' := rdE O b s) (fun _ _ _ => Iff.rfl) (fun j z j1 j2 z1 z2 _ => (f1 z z1 (by omega)).2 j j1 j2) g2 (rdM_ok O b C s)
      simp only [up_ne (show ¬ (103 : Int) = 138 by omega), up_ne (show ¬ (103 : Int) = 139 by omega), up_ne (show ¬ (103 : Int) = 140 by omega), up_ne (show ¬ (103 : Int) = 141 by omega)]
      have g104 : ∀ j, j ≠ 50 → j ≠ 61 → j ≠ 62 → j ≠ 63 → m2 103 j = m 103 j := fun j j1 j2 j3 j4 => by rw [g1 j j2 j3 j4, up_oth j1, f0 103 (by omega)]
      have gO : ∀ q, q ≠ 103 → q ≠ 144 → q ≠ 145 → m2 q = m q := fun q q1 q2 q3 => by rw [g0 q q1 q3, u q q1]; exact f0 q q2
      rw [eA, eB, eN, g104 64 (by omega) (by omega) (by omega) (by omega), hU]
      have v : ∀ q, q ≠ 138 → q ≠ 139 → q ≠ 140 → q ≠ 141 → q ≠ 146 → jUp (jUp (jUp (jUp (jUp m2 138 x (rdM O b C s).1) 139 x (rdM O b C s).2.1) 140 x (rdM O b C s).2.2) 141 x n) 146 x U q = m2 q := fun q q1 q2 q3 q4 q5 => by rw [up_ne q5, up_ne q4, up_ne q3, up_ne q2, up_ne q1]
      have v1 : ∀ i, jUp (jUp (jUp (jUp (jUp m2 138 x (rdM O b C s).1) 139 x (rdM O b C s).2.1) 140 x (rdM O b C s).2.2) 141 x n) 146 x U 138 i = if i = x then (rdM O b C s).1 else m2 138 i := fun i => by rw [up_ne (by omega), up_ne (by omega), up_ne (by omega), up_ne (by omega), up_eq]
      have v2 : ∀ i, jUp (jUp (jUp (jUp (jUp m2 138 x (rdM O b C s).1) 139 x (rdM O b C s).2.1) 140 x (rdM O b C s).2.2) 141 x n) 146 x U 139 i = if i = x then (rdM O b C s).2.1 else m2 139 i := fun i => by rw [up_ne (by omega), up_ne (by omega), up_ne (by omega), up_eq, up_ne (by omega)]
      have v3 : ∀ i, jUp (jUp (jUp (jUp (jUp m2 138 x (rdM O b C s).1) 139 x (rdM O b C s).2.1) 140 x (rdM O b C s).2.2) 141 x n) 146 x U 140 i = if i = x then (rdM O b C s).2.2 else m2 140 i := fun i => by rw [up_ne (by omega), up_ne (by omega), up_eq, up_ne (by omega), up_ne (by omega)]
      have v4 : ∀ i, jUp (jUp (jUp (jUp (jUp m2 138 x (rdM O b C s).1) 139 x (rdM O b C s).2.1) 140 x (rdM O b C s).2.2) 141 x n) 146 x U 141 i = if i = x then n else m2 141 i := fun i => by rw [up_ne (by omega), up_eq, up_ne (by omega), up_ne (by omega), up_ne (by omega)]
      have v5 : ∀ i, jUp (jUp (jUp (jUp (jUp m2 138 x (rdM O b C s).1) 139 x (rdM O b C s).2.1) 140 x (rdM O b C s).2.2) 141 x n) 146 x U 146 i = if i = x then U else m2 146 i := fun i => by rw [up_eq, up_ne (by omega), up_ne (by omega), up_ne (by omega), up_ne (by omega)]
      have k50' : m2 103 50 = x + 1 := by rw [g1 50 (by omega) (by omega) (by omega), up_same]
      have hxx : m 103 50 = x := hx50
      -- the cell of the number has moved on; the rows are written at x
      generalize jUp (jUp (jUp (jUp (jUp m2 138 x (rdM O b C s).1) 139 x (rdM O b C s).2.1) 140 x (rdM O b C s).2.2) 141 x n) 146 x U = m3 at *
      have w104 := v 103 (by omega) (by omega) (by omega) (by omega) (by omega)
      refine L148 8 0 m3 (by omega) (by omega) (by rw [w104]; exact eA) (by rw [w104]; exact eB) (fun q hq => ?_) (by rw [w104]; exact g104) (by rw [w104]; exact k50') ?_ (fun z z1 z2 => by omega) (fun q q1 q2 q3 q4 q5 i hi => ?_) (fun i hi => by rw [v 143 (by omega) (by omega) (by omega) (by omega) (by omega), gO 143 (by omega) (by omega) (by omega)]) (fun j j1 j2 => ?_)
      · unfold rdCells at hq
        rw [v q (by omega) (by omega) (by omega) (by omega) (by omega)]
        exact gO q (by omega) (by omega) (by omega)
      · rw [v1, v2, v3, v4, v5, if_pos rfl, if_pos rfl, if_pos rfl, if_pos rfl, if_pos rfl]
        exact ⟨rfl, rfl, rfl, rfl, en⟩
      · have hq : q = 138 ∨ q = 139 ∨ q = 140 ∨ q = 141 ∨ q = 142 ∨ q = 146 := by omega
        rcases hq with rfl | rfl | rfl | rfl | rfl | rfl
        · rw [v1, if_neg hi, gO 138 (by omega) (by omega) (by omega)]
        · rw [v2, if_neg hi, gO 139 (by omega) (by omega) (by omega)]
        · rw [v3, if_neg hi, gO 140 (by omega) (by omega) (by omega)]
        · rw [v4, if_neg hi, gO 141 (by omega) (by omega) (by omega)]
        · rw [v 142 (by omega) (by omega) (by omega) (by omega) (by omega), gO 142 (by omega) (by omega) (by omega)]
        · rw [v5, if_neg hi, gO 146 (by omega) (by omega) (by omega)]
      · rw [v 136 (by omega) (by omega) (by omega) (by omega) (by omega), v 137 (by omega) (by omega) (by omega) (by omega) (by omega), gO 136 (by omega) (by omega) (by omega), gO 137 (by omega) (by omega) (by omega)]
        exact ⟨h1 j j1 j2, h2 j j1 j2⟩
    | succ r ih =>
      intro n c m1 hc hr f0 f1 f2 f3
      have ec : w32 (c + 1) = c + 1 := w32_id (by omega) (by omega)
      have hc8 : 0 ≤ c ∧ c < 8 := by omega
      rw [sv_s] at f2
      have L19 : ∀ (t : Nat) (n1 j : Int) (m2 : jM), 0 ≤ j → j + t = 8 → (∀ q, q ≠ 144 → m2 q = m q) → (∀ z, z ≠ c → m2 144 z = m1 144 z) → mk8 (m2 144 c) → (∀ i : Int, 0 ≤ i → i < 8 → (bt (m2 144 c) i = true ↔ i < j ∧ rdE O b s i c = true)) → n1 = n + pcn (fun j => rdE O b s j c) j.toNat → aX11_isLast_19 (d + 11) n1 c j m2 Q := by
        intro t
        induction t with
        | zero =>
          intro n1 j m2 hj hjr p0 p1 p2 p3 p4
          have hn := pcn_nn (fun j => rdE O b s j c) 8
          refine gX11_isLast_19 (d + 11) n1 c j m2 Q ⟨fun q => by omega, fun _ => ?_⟩
          rw [ec]
          rw [show j.toNat = 8 by omega] at p4
          refine ih n1 (c + 1) m2 (by omega) (by omega) p0 (fun z z1 z2 => ?_) (by omega) (by omega)
          by_cases hz : z = c
          · rw [hz]
            refine ⟨p2, fun i i1 i2 => ?_⟩
            have := p3 i i1 i2
            cases he : rdE O b s i c with
            | true => rw [this]; exact ⟨by omega, he⟩
            | false =>
              cases hb2 : bt (m2 144 c) i with
              | false => rfl
              | true => rw [(this.mp hb2).2] at he; cases he
          · rw [p1 z hz]; exact f1 z z1 (by omega)
        | succ t iht =>
          intro n1 j m2 hj hjr p0 p1 p2 p3 p4
          have ej : w32 (j + 1) = j + 1 := w32_id (by omega) (by omega)
          have hj8 : 0 ≤ j ∧ j < 8 := by omega
          have e3 : w32 (w32 (8 * j) + c) = 8 * j + c := by simp (disch := omega) only [w32_id]
          have k129 := p0 128 (by omega)
          have hOj : O j c = decide (m 128 (8 * j + c) ≠ -1) := by rw [← hO]; rfl
          have hps := pcn_s (fun j => rdE O b s j c) j hj
          have hnn := pcn_nn (fun j => rdE O b s j c) j.toNat
          have skip : ¬ rdE O b s j c = true → aX11_isLast_19 (d + 11) n1 c (w32 (j + 1)) m2 Q := by
            intro hn
            rw [ej]
            refine iht n1 (j + 1) m2 (by omega) (by omega) p0 p1 p2 (fun i i1 i2 => ?_) (by rw [hps, if_neg hn, p4]; omega)
            rw [p3 i i1 i2]
            constructor
            · intro g; exact ⟨by omega, g.2⟩
            · intro g
              have : i ≠ j := by rintro rfl; exact hn g.2
              exact ⟨by omega, g.2⟩
          refine gX11_isLast_19 (d + 11) n1 c j m2 Q ⟨fun _ => ⟨by omega, fun q => skip ?_, fun q => jK_deep (show (d + 10) + 1 ≤ d + 11 by omega) (s_slackR (s := s) hj8 hc8 (by rw [p0 136 (by omega)]; exact h1 j hj8.1 hj8.2) (by rw [p0 137 (by omega)]; exact h2 c hc8.1 hc8.2) ⟨fun q2 => ⟨hc8, hc8, ?_⟩, fun q2 => skip ?_⟩)⟩, fun q => by omega⟩
          · rw [e3, k129] at q
            rw [hE, hOj, q]; simp
          · rw [e3, k129] at q
            rw [k129, hb] at q2
            have hEt : rdE O b s j c = true := by
              rw [hE, hOj, q2]; simpa using q
            have hnb : bt (m2 144 c) j = false := by
              cases hb2 : bt (m2 144 c) j with
              | false => rfl
              | true => have := ((p3 j hj8.1 hj8.2).mp hb2).1; omega
            rw [ej, w32_id (z := n1 + 1) (by omega) (by omega)]
            refine iht (n1 + 1) (j + 1) _ (by omega) (by omega) (fun q hq => by rw [up_ne hq]; exact p0 q hq) (fun z hz => by rw [up_oth hz]; exact p1 z hz) (by rw [up_same]; exact mk_or1 p2 hj8) (fun i i1 i2 => ?_) (by rw [hps, if_pos hEt, p4]; omega)
            rw [up_same, bt_or1 hj8 ⟨i1, i2⟩, p3 i i1 i2]
            constructor
            · rintro (g | g)
              · exact ⟨by omega, g.2⟩
              · rw [g]; exact ⟨by omega, hEt⟩
            · intro g
              by_cases hij : i = j
              · exact Or.inr hij
              · exact Or.inl ⟨by omega, g.2⟩
          · rw [k129, hb] at q2
            rw [hE]; intro g; rw [Bool.and_eq_true, decide_eq_true_eq] at g; exact q2 g.2
      refine gX11_isLast_4 (d + 11) n c m1 Q ⟨fun _ => ⟨hc8, ?_⟩, fun q => by omega⟩
      refine L19 8 n 0 _ (by omega) (by omega) (fun q hq => by rw [up_ne hq]; exact f0 q hq) (fun z hz => up_oth hz) (by rw [up_same]; exact mk_0) (fun i i1 i2 => ?_) (by show n = n + pcn _ 0; show n = n + 0; omega)
      rw [up_same, bt_0]
      exact ⟨(fun g => by cases g), (fun g => by omega)⟩
  refine gX11_isLast (d + 11) m Q (L4 8 0 0 m (by omega) (by omega) (fun _ _ => rfl) (fun z z1 z2 => by omega) (by show 0 + rdT O b s = _; omega) (by omega))

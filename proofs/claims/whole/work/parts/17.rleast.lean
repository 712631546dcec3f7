/-! the reference's least(): its table is dpt -/
def rO (w : Int → Int) (j c : Int) : Bool := decide (w (8 * j + c) ≠ -1)
def rC (w : Int → Int) (c : Int) : Bool := decide (w (8 + c) = 1)
theorem s_isCase {d : Nat} {c : Int} {m : jM} {Q : Int → jM → Prop} (hc : 0 ≤ c ∧ c < 8) (h : Q (bI (rC (m 104) c = true)) m) : jK (d + 1) zX11_isCase [jO 11 103, jI c] m Q := by
  have e : w32 (8 + c) = 8 + c := w32_id (by omega) (by omega)
  refine gX11_isCase d c m Q ⟨by omega, fun q => ?_, fun q => ?_⟩ <;> rw [e] at q <;> unfold rC at h
  · rw [bI_t (by simpa using q)] at h; exact h
  · rw [bI_f (by simpa using q)] at h; exact h
theorem s_isJudge {d : Nat} {c : Int} {m : jM} {Q : Int → jM → Prop} (hc : 0 ≤ c ∧ c < 8) (h : Q (bI (m 104 c = 1)) m) : jK (d + 1) zX11_isJudge [jO 11 103, jI c] m Q := by
  refine gX11_isJudge d c m Q ⟨by omega, fun q => ?_, fun q => ?_⟩
  · rw [bI_t q] at h; exact h
  · rw [bI_f q] at h; exact h
def rEn (m : jM) (o : Int → Int → Bool) (b : Int → Int → Int) (C : Int → Bool) (k : Nat) (s : Int) : Prop := m 129 ((8 - k) * 256 + s) = (dpt 0 o b C k s).1 ∧ m 130 ((8 - k) * 256 + s) = (dpt 0 o b C k s).2
def rLT (m : jM) : Prop := ∀ k : Nat, k ≤ 8 → ∀ s, mk8 s → rEn m (rO (m 128)) (rB (m 128)) (rC (m 104)) k s
theorem bt_shr {x j : Int} (hj : 0 ≤ j ∧ j < 32) : iAnd (iShr x j) 1 = 1 ↔ bt x j = true := by
  rw [bt_get hj]; cases bt x j <;> simp
theorem bt_sh0 {x j : Int} (hj : 0 ≤ j ∧ j < 32) : iAnd (iShr x j) 1 = 0 ↔ bt x j = false := by
  rw [bt_get hj]; cases bt x j <;> simp
theorem s_least {d : Nat} {m : jM} {Q : Int → jM → Prop} (hB : dpB (rO (m 128)) (rB (m 128)))
    (h : ∀ m', (∀ q, q ≠ 129 → q ≠ 130 → m' q = m q) → rLT m' → Q (m' 129 0) m') : jK (d + 2) zX11_least [jO 11 103] m Q := by
  generalize ho : rO (m 128) = o at *
  generalize hb : rB (m 128) = b at *
  generalize hCC : rC (m 104) = C at *
  have entU : ∀ (m1 : jM) (k k' : Nat) (s s' v w : Int), mk8 s → mk8 s' → k ≤ 8 → k' ≤ 8 → ((k : Int) ≠ k' ∨ s ≠ s') → rEn m1 o b C k' s' → rEn (jUp (jUp m1 129 ((8 - k) * 256 + s) v) 130 ((8 - k) * 256 + s) w) o b C k' s' := by
    intro m1 k k' s s' v w hs hs' hk hk' hne he
    unfold mk8 at hs hs'
    have e : ¬ (8 - (k' : Int)) * 256 + s' = (8 - k) * 256 + s := by omega
    unfold rEn at he ⊢
    simp only [up_eq, jUp_row, Int.reduceEq, reduceIte, if_neg e]
    exact he
  have entV : ∀ (m1 : jM) (k k' : Nat) (s s' w : Int), mk8 s → mk8 s' → k ≤ 8 → k' ≤ 8 → ((k : Int) ≠ k' ∨ s ≠ s') → rEn m1 o b C k' s' → rEn (jUp m1 130 ((8 - k) * 256 + s) w) o b C k' s' := by
    intro m1 k k' s s' w hs hs' hk hk' hne he
    unfold mk8 at hs hs'
    have e : ¬ (8 - (k' : Int)) * 256 + s' = (8 - k) * 256 + s := by omega
    unfold rEn at he ⊢
    simp only [up_eq, jUp_row, Int.reduceEq, reduceIte, if_neg e]
    exact he
  have L122 : ∀ (r : Nat) (k : Nat) (c s j : Int) (m1 : jM), c + k = 7 → k ≤ 7 → mk8 s → j + r = 8 → 0 ≤ j → (∀ q, q ≠ 129 → q ≠ 130 → m1 q = m q) →
      (∀ k' : Nat, k' ≤ k → ∀ s', mk8 s' → rEn m1 o b C k' s') → (∀ s', mk8 s' → s' < s → rEn m1 o b C (k + 1) s') →
      (m1 129 (c * 256 + s) = (if C c = true then (dpf 0 o b (dpt 0 o b C k) c s j.toNat) else dpt 0 o b C k s).1 ∧ m1 130 (c * 256 + s) = (if C c = true then (dpf 0 o b (dpt 0 o b C k) c s j.toNat) else dpt 0 o b C k s).2) →
      (∀ m2, (∀ q, q ≠ 129 → q ≠ 130 → m2 q = m q) → (∀ k' : Nat, k' ≤ k → ∀ s', mk8 s' → rEn m2 o b C k' s') → (∀ s', mk8 s' → s' < s + 1 → rEn m2 o b C (k + 1) s') → aX11_least_46 (d + 1) c (s + 1) m2 Q) →
      aX11_least_122 (d + 1) c s (c * 256 + s) j m1 Q := by
    intro r
    induction r with
    | zero =>
      intro k c s j m1 hck hk hs hj hj0 hf hlev hlow hcur hcont
      have hs2 := hs
      unfold mk8 at hs2
      have e1 : w32 (s + 1) = s + 1 := w32_id (by omega) (by omega)
      refine gX11_least_122 (d + 1) c s _ j m1 Q ⟨fun q => by omega, fun _ => ?_⟩
      rw [e1]
      refine hcont m1 hf hlev (fun s' hs' hlt => ?_)
      by_cases hse : s' = s
      · subst hse
        unfold rEn
        rw [dpt_s, show (8 - ((k + 1 : Nat) : Int)) * 256 + s' = c * 256 + s' by omega, show (7 - (k : Int)) = c by omega]
        rw [show j.toNat = 8 by omega] at hcur
        exact hcur
      · exact hlow s' hs' (by omega)
    | succ r ih =>
      intro k c s j m1 hck hk hs hj hj0 hf hlev hlow hcur hcont
      have hs2 := hs
      unfold mk8 at hs2
      have hc7 : 0 ≤ c ∧ c < 8 := by omega
      have e1 : w32 (s + 1) = s + 1 := w32_id (by omega) (by omega)
      have e2 : w32 (j + 1) = j + 1 := w32_id (by omega) (by omega)
      have hor := mk_or1 hs (k := j) ⟨by omega, by omega⟩
      have hor2 := hor
      unfold mk8 at hor2
      have e3 : w32 (w32 (8 * j) + c) = 8 * j + c := by simp (disch := omega) only [w32_id]
      have e4 : w32 (w32 (w32 (c + 1) * 256) + iOr s (iShl 1 j)) = (8 - (k : Int)) * 256 + iOr s (iShl 1 j) := by
        simp (disch := omega) only [w32_id]; omega
      have hdone : ¬ C c = true → aX11_least_46 (d + 1) c (s + 1) m1 Q := by
        intro hn
        refine hcont m1 hf hlev (fun s' hs' hlt => ?_)
        by_cases hse : s' = s
        · subst hse
          unfold rEn
          rw [dpt_s, show (8 - ((k + 1 : Nat) : Int)) * 256 + s' = c * 256 + s' by omega, show (7 - (k : Int)) = c by omega, if_neg hn]
          rw [if_neg hn] at hcur
          exact hcur
        · exact hlow s' hs' (by omega)
      refine gX11_least_122 (d + 1) c s _ j m1 Q ⟨fun q => s_isCase hc7 ⟨fun q2 => ?_, fun q2 => ?_⟩, fun q => by omega⟩
      · rw [bI_0, hf 104 (by omega) (by omega), hCC] at q2
        rw [e1]; exact hdone q2
      · rw [bI_0, hf 104 (by omega) (by omega), hCC, Classical.not_not] at q2
        rw [if_pos q2] at hcur
        have hnext : ∀ m2 : jM, (∀ q, q ≠ 129 → q ≠ 130 → m2 q = m q) → (∀ k' : Nat, k' ≤ k → ∀ s', mk8 s' → rEn m2 o b C k' s') → (∀ s', mk8 s' → s' < s → rEn m2 o b C (k + 1) s') → m2 129 (c * 256 + s) = (dpf 0 o b (dpt 0 o b C k) c s (j.toNat + 1)).1 → m2 130 (c * 256 + s) = (dpf 0 o b (dpt 0 o b C k) c s (j.toNat + 1)).2 → aX11_least_122 (d + 1) c s (c * 256 + s) (w32 (j + 1)) m2 Q := by
          intro m2 g1 g2 g3 g4 g5
          rw [e2]
          refine ih k c s (j + 1) m2 hck hk hs (by omega) (by omega) g1 g2 g3 ?_ hcont
          rw [if_pos q2, show (j + 1).toNat = j.toNat + 1 by omega]
          exact ⟨g4, g5⟩
        have hstep := dpf_s 0 o b (dpt 0 o b C k) c s j.toNat
        rw [show ((j.toNat : Nat) : Int) = j by omega] at hstep
        have hlv := hlev k (Nat.le_refl _) _ hor
        unfold rEn at hlv
        have hskip : ¬ (bt s j = false ∧ o j c = true ∧ (dpt 0 o b C k (iOr s (iShl 1 j))).1 ≠ dpF) → aX11_least_122 (d + 1) c s (c * 256 + s) (w32 (j + 1)) m1 Q := by
          intro hn
          rw [if_neg hn] at hstep
          exact hnext m1 hf hlev hlow (by rw [hstep]; exact hcur.1) (by rw [hstep]; exact hcur.2)
        have hoj : o j c = decide (m1 128 (8 * j + c) ≠ -1) := by rw [hf 128 (by omega) (by omega), ← ho]; rfl
        have hbj : b j c = m1 128 (8 * j + c) := by rw [hf 128 (by omega) (by omega), ← hb]; rfl
        refine ⟨fun q3 => hskip ?_, fun q3 => ⟨by omega, fun q4 => hskip ?_, fun q4 => ⟨by omega, fun q5 => hskip ?_, fun q5 => ⟨by omega, by omega, by omega, ?_, ?_⟩⟩⟩⟩
        · rw [bt_shr (by omega)] at q3
          rintro ⟨g, _⟩; rw [q3] at g; cases g
        · rw [e3] at q4
          rintro ⟨_, g, _⟩; rw [hoj, q4] at g; simp at g
        · rw [e4, hlv.1] at q5
          rintro ⟨_, _, g⟩; exact g q5
        all_goals
          rw [bt_shr (by omega)] at q3
          rw [e3] at q4
          rw [e4, hlv.1] at q5
          rw [if_pos ⟨by simpa using q3, by rw [hoj]; simpa using q4, q5⟩] at hstep
          rw [e3, e4, hlv.1]
          have hbr := hB j c (by omega) (by omega) (by omega) (by omega) (by rw [hoj]; simpa using q4)
          have hTr := dpt_r (h := 0) (C := C) hB k (by omega) _ hor
          have hx : 0 ≤ (dpt 0 o b C k (iOr s (iShl 1 j))).1 ∧ (dpt 0 o b C k (iOr s (iShl 1 j))).1 ≤ 1000000000 * k := by rcases hTr.1 with g | g; exact g; exact absurd g q5
          rw [← hbj, w64_id (by omega) (by omega)]
          unfold dpO at hstep
          rw [if_pos rfl] at hstep
          intro q6
          rw [hcur.1] at q6
        · rw [if_pos q6] at hstep
          refine ⟨by omega, by omega, ?_⟩
          refine gX11_least_251 (d + 1) c s _ j _ _ _ Q ⟨by omega, fun q7 => ⟨by omega, by omega, by omega, ?_⟩, fun q7 => ?_⟩
          · have e6 : ¬ (8 - (k : Int)) * 256 + iOr s (iShl 1 j) = c * 256 + s := by omega
            simp only [up_eq, jUp_row, Int.reduceEq, reduceIte, if_neg e6]
            rw [hlv.2]
            have h8 : (8 : Int) ^ k ≤ 16777216 := dpt_pow (by omega)
            have hT2 := hTr.2
            rw [show w32 (0 + (dpt 0 o b C k (iOr s (iShl 1 j))).2) = (dpt 0 o b C k (iOr s (iShl 1 j))).2 from by rw [w32_id (by omega) (by omega)]; omega]
            rw [show c * 256 + s = (8 - ((k + 1 : Nat) : Int)) * 256 + s by omega] at *
            refine hnext _ (fun q g1 g2 => ?_) (fun k' hk' s' hs' => ?_) (fun s' hs' hlt => ?_) ?_ ?_
            · simp only [jUp_row, if_neg g1, if_neg g2]; exact hf q g1 g2
            · exact entV _ (k + 1) k' s s' _ hs hs' (by omega) (by omega) (by omega) (entU _ (k + 1) k' s s' _ _ hs hs' (by omega) (by omega) (by omega) (hlev k' hk' s' hs'))
            · exact entV _ (k + 1) (k + 1) s s' _ hs hs' (by omega) (by omega) (by omega) (entU _ (k + 1) (k + 1) s s' _ _ hs hs' (by omega) (by omega) (by omega) (hlow s' hs' hlt))
            · simp only [up_eq, jUp_row, Int.reduceEq, reduceIte]; rw [hstep]
            · simp only [up_eq, jUp_row, Int.reduceEq, reduceIte]; rw [hstep]
          · simp only [up_eq, jUp_row, Int.reduceEq, reduceIte] at q7
            exact absurd trivial q7
        · rw [if_neg q6] at hstep
          have h8 : (8 : Int) ^ k ≤ 16777216 := dpt_pow (by omega)
          have hT2 := hTr.2
          have hdr := dpf_r (h := 0) (T := dpt 0 o b C k) (s := s) (k := k) (c := c) hB hc7 hs (fun s hs => dpt_r hB k (by omega) s hs) j.toNat (by omega)
          have e9 : ((j.toNat : Nat) : Int) * 8 ^ k ≤ 8 * 8 ^ k := Int.mul_le_mul_of_nonneg_right (by omega) (by omega)
          refine gX11_least_251 (d + 1) c s _ j _ _ _ Q ⟨by omega, fun q7 => ⟨by omega, by omega, by omega, ?_⟩, fun q7 => ?_⟩
          · rw [hcur.1] at q7
            rw [if_pos q7] at hstep
            rw [hlv.2, hcur.2, w32_id (z := (dpf 0 o b (dpt 0 o b C k) c s j.toNat).2 + (dpt 0 o b C k (iOr s (iShl 1 j))).2) (by omega) (by omega)]
            rw [show c * 256 + s = (8 - ((k + 1 : Nat) : Int)) * 256 + s by omega] at *
            refine hnext _ (fun q g1 g2 => ?_) (fun k' hk' s' hs' => ?_) (fun s' hs' hlt => ?_) ?_ ?_
            · simp only [jUp_row, if_neg g2]; exact hf q g1 g2
            · exact entV _ (k + 1) k' s s' _ hs hs' (by omega) (by omega) (by omega) (hlev k' hk' s' hs')
            · exact entV _ (k + 1) (k + 1) s s' _ hs hs' (by omega) (by omega) (by omega) (hlow s' hs' hlt)
            · simp only [jUp_row, Int.reduceEq, reduceIte]; rw [hstep]; exact hcur.1
            · simp only [up_eq, reduceIte]; rw [hstep]
          · rw [hcur.1] at q7
            rw [if_neg q7] at hstep
            exact hnext m1 hf hlev hlow (by rw [hstep]; exact hcur.1) (by rw [hstep]; exact hcur.2)
  have L46 : ∀ (r : Nat) (k : Nat) (c s : Int) (m1 : jM), c + k = 7 → k ≤ 7 → 0 ≤ s → s + r = 256 → (∀ q, q ≠ 129 → q ≠ 130 → m1 q = m q) →
      (∀ k' : Nat, k' ≤ k → ∀ s', mk8 s' → rEn m1 o b C k' s') → (∀ s', mk8 s' → s' < s → rEn m1 o b C (k + 1) s') →
      (∀ m2, (∀ q, q ≠ 129 → q ≠ 130 → m2 q = m q) → (∀ k' : Nat, k' ≤ k + 1 → ∀ s', mk8 s' → rEn m2 o b C k' s') → aX11_least_40 (d + 1) (c - 1) m2 Q) →
      aX11_least_46 (d + 1) c s m1 Q := by
    intro r
    induction r with
    | zero =>
      intro k c s m1 hck hk hs hr hf hlev hlow hcont
      refine gX11_least_46 (d + 1) c s m1 Q ⟨fun q => by omega, fun _ => ?_⟩
      rw [show w32 (c + (-1)) = c - 1 from by rw [w32_id (by omega) (by omega)]; omega]
      refine hcont m1 hf (fun k' hk' s' hs' => ?_)
      by_cases hke : k' = k + 1
      · subst hke; exact hlow s' hs' (by unfold mk8 at hs'; omega)
      · exact hlev k' (by omega) s' hs'
    | succ r ih =>
      intro k c s m1 hck hk hs hr hf hlev hlow hcont
      have hs8 : mk8 s := by unfold mk8; omega
      have hc7 : 0 ≤ c ∧ c < 8 := by omega
      have e1 : w32 (w32 (c * 256) + s) = c * 256 + s := by simp (disch := omega) only [w32_id]
      have e2 : w32 (w32 (w32 (c * 256) + s) + 256) = (8 - (k : Int)) * 256 + s := by rw [e1, w32_id (by omega) (by omega)]; omega
      have hlv := hlev k (Nat.le_refl _) s hs8
      unfold rEn at hlv
      have go : ∀ v w : Int, (v = (if C c = true then dpf 0 o b (dpt 0 o b C k) c s 0 else dpt 0 o b C k s).1) → (w = (if C c = true then dpf 0 o b (dpt 0 o b C k) c s 0 else dpt 0 o b C k s).2) →
          aX11_least_122 (d + 1) c s (c * 256 + s) 0 (jUp (jUp m1 129 (c * 256 + s) v) 130 (c * 256 + s) w) Q := by
        intro v w hv hw
        refine L122 8 k c s 0 _ hck hk hs8 (by omega) (by omega) (fun q g1 g2 => ?_) (fun k' hk' s' hs' => ?_) (fun s' hs' hlt => ?_) ?_ (fun m2 g1 g2 g3 => ih k c (s + 1) m2 hck hk (by omega) (by omega) g1 g2 g3 hcont)
        · simp only [jUp_row, if_neg g1, if_neg g2]; exact hf q g1 g2
        · rw [show c * 256 + s = (8 - ((k + 1 : Nat) : Int)) * 256 + s by omega]
          exact entU _ (k + 1) k' s s' _ _ hs8 hs' (by omega) (by omega) (by omega) (hlev k' hk' s' hs')
        · rw [show c * 256 + s = (8 - ((k + 1 : Nat) : Int)) * 256 + s by omega]
          exact entU _ (k + 1) (k + 1) s s' _ _ hs8 hs' (by omega) (by omega) (by omega) (hlow s' hs' hlt)
        · simp only [up_eq, jUp_row, Int.reduceEq, reduceIte]
          exact ⟨hv, hw⟩
      have f105 : ∀ i v, jUp m1 129 i v 104 = m 104 := fun i v => by rw [jUp_row, if_neg (by omega)]; exact hf 104 (by omega) (by omega)
      refine gX11_least_46 (d + 1) c s m1 Q ⟨fun q => s_isCase hc7 ⟨fun q2 => ⟨by omega, by omega, s_isCase hc7 ⟨fun q3 => ⟨by omega, by omega, ?_⟩, fun q3 => ?_⟩⟩, fun q2 => ⟨by omega, s_isCase hc7 ⟨fun q3 => ?_, fun q3 => ⟨by omega, ?_⟩⟩⟩⟩, fun q => by omega⟩
      all_goals
        rw [bI_0, hf 104 (by omega) (by omega), hCC] at q2
        rw [bI_0, f105, hCC] at q3
      · rw [e2, e1]
        refine go _ _ ?_ ?_
        · rw [if_neg q2]; exact hlv.1
        · rw [if_neg q2]
          simp only [jUp_row, Int.reduceEq, reduceIte]; exact hlv.2
      · exact absurd q2 q3
      · exact absurd q3 q2
      · rw [Classical.not_not] at q2
        rw [e1]
        refine go _ _ ?_ ?_
        · rw [if_pos q2]; rfl
        · rw [if_pos q2]; rfl
  have L40 : ∀ (r : Nat) (k : Nat) (m1 : jM), k + r = 8 → (∀ q, q ≠ 129 → q ≠ 130 → m1 q = m q) → (∀ k' : Nat, k' ≤ k → ∀ s', mk8 s' → rEn m1 o b C k' s') → aX11_least_40 (d + 1) (7 - k) m1 Q := by
    intro r
    induction r with
    | zero =>
      intro k m1 hk hf hlev
      refine gX11_least_40 (d + 1) _ m1 Q ⟨fun _ => ⟨by omega, ?_⟩, fun q => by omega⟩
      refine h m1 hf ?_
      unfold rLT
      rw [hf 128 (by omega) (by omega), hf 104 (by omega) (by omega), ho, hb, hCC]
      intro k' hk'
      exact hlev k' (by omega)
    | succ r ih =>
      intro k m1 hk hf hlev
      refine gX11_least_40 (d + 1) _ m1 Q ⟨fun q => by omega, fun _ => ?_⟩
      refine L46 256 k (7 - k) 0 m1 (by omega) (by omega) (by omega) (by omega) hf hlev (fun s' hs' hlt => by unfold mk8 at hs'; omega) (fun m2 g1 g2 => ?_)
      have := ih (k + 1) m2 (by omega) g1 g2
      rw [show (7 - ((k + 1 : Nat) : Int)) = 7 - (k : Int) - 1 by omega] at this
      exact this
  have L2 : ∀ (r : Nat) (s : Int) (m1 : jM), 0 ≤ s → s + r = 256 → (∀ q, q ≠ 129 → q ≠ 130 → m1 q = m q) → (∀ s', mk8 s' → s' < s → rEn m1 o b C 0 s') → aX11_least_2 (d + 1) s m1 Q := by
    intro r
    induction r with
    | zero =>
      intro s m1 hs hr hf hlow
      refine gX11_least_2 (d + 1) s m1 Q ⟨fun q => by omega, fun _ => ?_⟩
      refine L40 8 0 m1 (by omega) hf (fun k' hk' s' hs' => ?_)
      rw [show k' = 0 by omega]
      exact hlow s' hs' (by unfold mk8 at hs'; omega)
    | succ r ih =>
      intro s m1 hs hr hf hlow
      have hs8 : mk8 s := by unfold mk8; omega
      have e1 : w32 (2048 + s) = (8 - ((0 : Nat) : Int)) * 256 + s := by rw [w32_id (by omega) (by omega)]; omega
      have e2 : w32 (s + 1) = s + 1 := w32_id (by omega) (by omega)
      refine gX11_least_2 (d + 1) s m1 Q ⟨fun q => ⟨by omega, by omega, ?_⟩, fun q => by omega⟩
      rw [e1, e2]
      refine ih (s + 1) _ (by omega) (by omega) (fun q g1 g2 => ?_) (fun s' hs' hlt => ?_)
      · simp only [jUp_row, if_neg g1, if_neg g2]; exact hf q g1 g2
      · by_cases hse : s' = s
        · subst hse
          unfold rEn
          simp only [up_eq, jUp_row, Int.reduceEq, reduceIte]
          exact ⟨rfl, rfl⟩
        · exact entU _ 0 0 s s' _ _ hs8 hs' (by omega) (by omega) (by omega) (hlow s' hs' (by omega))
  refine gX11_least (d + 1) m Q (L2 256 0 m (by omega) (by omega) (fun _ _ _ => rfl) (fun s' hs' hlt => by unfold mk8 at hs'; omega))

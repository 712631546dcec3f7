/-! the reference's heaviest(): its table is dpt 1 -/
def rHn (m : jM) (o : Int → Int → Bool) (b : Int → Int → Int) (C : Int → Bool) (k : Nat) (s : Int) : Prop := m 135 ((8 - k) * 256 + s) = (dpt 1 o b C k s).1
theorem s_heaviest {d : Nat} {m : jM} {Q : Int → jM → Prop} (hB : dpB (rO (m 128)) (rB (m 128)))
    (h : ∀ m', (∀ q, q ≠ 135 → m' q = m q) → Q (dpt 1 (rO (m 128)) (rB (m 128)) (rC (m 104)) 8 0).1 m') : jK (d + 2) zX11_heaviest [jO 11 103] m Q := by
  generalize ho : rO (m 128) = o at *
  generalize hb : rB (m 128) = b at *
  generalize hCC : rC (m 104) = C at *
  have entU : ∀ (m1 : jM) (k k' : Nat) (s s' v : Int), mk8 s → mk8 s' → k ≤ 8 → k' ≤ 8 → ((k : Int) ≠ k' ∨ s ≠ s') → rHn m1 o b C k' s' → rHn (jUp m1 135 ((8 - k) * 256 + s) v) o b C k' s' := by
    intro m1 k k' s s' v hs hs' hk hk' hne he
    unfold mk8 at hs hs'
    have e : ¬ (8 - (k' : Int)) * 256 + s' = (8 - k) * 256 + s := by omega
    unfold rHn at he ⊢
    rw [up_oth e]
    exact he
  have L74 : ∀ (r : Nat) (k : Nat) (c s v j : Int) (m1 : jM), c + k = 7 → k ≤ 7 → mk8 s → j + r = 8 → 0 ≤ j → (∀ q, q ≠ 135 → m1 q = m q) →
      (∀ k' : Nat, k' ≤ k → ∀ s', mk8 s' → rHn m1 o b C k' s') → (∀ s', mk8 s' → s' < s → rHn m1 o b C (k + 1) s') →
      (v = (if C c = true then (dpf 1 o b (dpt 1 o b C k) c s j.toNat) else dpt 1 o b C k s).1) →
      (∀ m2, (∀ q, q ≠ 135 → m2 q = m q) → (∀ k' : Nat, k' ≤ k → ∀ s', mk8 s' → rHn m2 o b C k' s') → (∀ s', mk8 s' → s' < s + 1 → rHn m2 o b C (k + 1) s') → aX11_heaviest_35 (d + 1) c (s + 1) m2 Q) →
      aX11_heaviest_74 (d + 1) c s v j m1 Q := by
    intro r
    have done : ∀ (k : Nat) (c s v : Int) (m1 : jM), c + k = 7 → k ≤ 7 → mk8 s → (∀ q, q ≠ 135 → m1 q = m q) →
      (∀ k' : Nat, k' ≤ k → ∀ s', mk8 s' → rHn m1 o b C k' s') → (∀ s', mk8 s' → s' < s → rHn m1 o b C (k + 1) s') →
      (v = (if C c = true then (dpf 1 o b (dpt 1 o b C k) c s 8) else dpt 1 o b C k s).1) →
      (∀ m2, (∀ q, q ≠ 135 → m2 q = m q) → (∀ k' : Nat, k' ≤ k → ∀ s', mk8 s' → rHn m2 o b C k' s') → (∀ s', mk8 s' → s' < s + 1 → rHn m2 o b C (k + 1) s') → aX11_heaviest_35 (d + 1) c (s + 1) m2 Q) →
      aX11_heaviest_35 (d + 1) c (s + 1) (jUp m1 135 (c * 256 + s) v) Q := by
      intro k c s v m1 hck hk hs hf hlev hlow hv hcont
      rw [show c * 256 + s = (8 - ((k + 1 : Nat) : Int)) * 256 + s by omega]
      refine hcont _ (fun q g => by rw [up_ne g]; exact hf q g) (fun k' hk' s' hs' => entU _ (k + 1) k' s s' _ hs hs' (by omega) (by omega) (by omega) (hlev k' hk' s' hs')) (fun s' hs' hlt => ?_)
      by_cases hse : s' = s
      · subst hse
        unfold rHn
        rw [up_same, hv, dpt_s, show (7 - (k : Int)) = c by omega]
      · exact entU _ (k + 1) (k + 1) s s' _ hs hs' (by omega) (by omega) (by omega) (hlow s' hs' (by omega))
    induction r with
    | zero =>
      intro k c s v j m1 hck hk hs hj hj0 hf hlev hlow hv hcont
      have hs2 : 0 ≤ s ∧ s < 256 := hs
      have e1 : w32 (s + 1) = s + 1 := w32_id (by omega) (by omega)
      have e5 : w32 (w32 (c * 256) + s) = c * 256 + s := by simp (disch := omega) only [w32_id]
      refine gX11_heaviest_74 (d + 1) c s v j m1 Q ⟨fun q => by omega, fun _ => ⟨by omega, ?_⟩⟩
      rw [e1, e5]
      rw [show j.toNat = 8 by omega] at hv
      exact done k c s v m1 hck hk hs hf hlev hlow hv hcont
    | succ r ih =>
      intro k c s v j m1 hck hk hs hj hj0 hf hlev hlow hv hcont
      have hs2 : 0 ≤ s ∧ s < 256 := hs
      have hc7 : 0 ≤ c ∧ c < 8 := by omega
      have e1 : w32 (s + 1) = s + 1 := w32_id (by omega) (by omega)
      have e2 : w32 (j + 1) = j + 1 := w32_id (by omega) (by omega)
      have e5 : w32 (w32 (c * 256) + s) = c * 256 + s := by simp (disch := omega) only [w32_id]
      have hor := mk_or1 hs (k := j) ⟨by omega, by omega⟩
      have hor2 : 0 ≤ iOr s (iShl 1 j) ∧ iOr s (iShl 1 j) < 256 := hor
      have e3 : w32 (w32 (8 * j) + c) = 8 * j + c := by simp (disch := omega) only [w32_id]
      have e4 : w32 (w32 (w32 (c + 1) * 256) + iOr s (iShl 1 j)) = (8 - (k : Int)) * 256 + iOr s (iShl 1 j) := by
        simp (disch := omega) only [w32_id]; omega
      refine gX11_heaviest_74 (d + 1) c s v j m1 Q ⟨fun q => s_isCase hc7 ⟨fun q2 => ⟨by omega, ?_⟩, fun q2 => ?_⟩, fun q => by omega⟩
      · rw [bI_0, hf 104 (by omega), hCC] at q2
        rw [e1, e5]
        exact done k c s v m1 hck hk hs hf hlev hlow (by rw [if_neg q2] at hv ⊢; exact hv) hcont
      · rw [bI_0, hf 104 (by omega), hCC, Classical.not_not] at q2
        rw [if_pos q2] at hv
        have hstep := dpf_s 1 o b (dpt 1 o b C k) c s j.toNat
        rw [show ((j.toNat : Nat) : Int) = j by omega] at hstep
        have hlv := hlev k (Nat.le_refl _) _ hor
        unfold rHn at hlv
        have next : ∀ v', v' = (dpf 1 o b (dpt 1 o b C k) c s (j.toNat + 1)).1 → aX11_heaviest_74 (d + 1) c s v' (w32 (j + 1)) m1 Q := by
          intro v' hv'
          rw [e2]
          refine ih k c s v' (j + 1) m1 hck hk hs (by omega) (by omega) hf hlev hlow ?_ hcont
          rw [if_pos q2, show (j + 1).toNat = j.toNat + 1 by omega]
          exact hv'
        have skip : ¬ (bt s j = false ∧ o j c = true ∧ (dpt 1 o b C k (iOr s (iShl 1 j))).1 ≠ dpF) → aX11_heaviest_74 (d + 1) c s v (w32 (j + 1)) m1 Q := by
          intro hn
          rw [if_neg hn] at hstep
          exact next v (by rw [hstep]; exact hv)
        have hoj : o j c = decide (m1 128 (8 * j + c) ≠ -1) := by rw [hf 128 (by omega), ← ho]; rfl
        have hbj : b j c = m1 128 (8 * j + c) := by rw [hf 128 (by omega), ← hb]; rfl
        refine ⟨fun q3 => skip ?_, fun q3 => ⟨by omega, fun q4 => skip ?_, fun q4 => ⟨by omega, by omega, s_max (s_min ?_)⟩⟩⟩
        · rw [bt_shr (by omega)] at q3
          rintro ⟨g, _⟩; rw [q3] at g; cases g
        · rw [e3] at q4
          rintro ⟨_, g, _⟩; rw [hoj, q4] at g; simp at g
        · rw [bt_shr (by omega)] at q3
          rw [e3] at q4
          rw [e3, e4, hlv, ← hbj]
          have hbr := hB j c (by omega) (by omega) (by omega) (by omega) (by rw [hoj]; simpa using q4)
          have hdr := dpf_r (h := 1) (T := dpt 1 o b C k) (s := s) (k := k) (c := c) hB hc7 hs (fun s hs => dpt_r hB k (by omega) s hs) j.toNat (by omega)
          have hTr := dpt_r (h := 1) (C := C) hB k (by omega) _ hor
          have hF : dpF = 1125899906842624 := rfl
          by_cases q5 : (dpt 1 o b C k (iOr s (iShl 1 j))).1 = dpF
          · rw [q5, show min v (max (b j c) dpF) = v from by omega]
            exact skip (by rintro ⟨_, _, g⟩; exact g q5)
          · refine next _ ?_
            rw [if_pos ⟨by simpa using q3, by rw [hoj]; simpa using q4, q5⟩] at hstep
            rw [show dpO 1 (b j c) (dpt 1 o b C k (iOr s (iShl 1 j))).1 = max (b j c) (dpt 1 o b C k (iOr s (iShl 1 j))).1 from by unfold dpO; rw [if_neg (by omega)]] at hstep
            rw [hstep, hv]
            split
            · omega
            · split
              · omega
              · omega
  have L35 : ∀ (r : Nat) (k : Nat) (c s : Int) (m1 : jM), c + k = 7 → k ≤ 7 → 0 ≤ s → s + r = 256 → (∀ q, q ≠ 135 → m1 q = m q) →
      (∀ k' : Nat, k' ≤ k → ∀ s', mk8 s' → rHn m1 o b C k' s') → (∀ s', mk8 s' → s' < s → rHn m1 o b C (k + 1) s') →
      (∀ m2, (∀ q, q ≠ 135 → m2 q = m q) → (∀ k' : Nat, k' ≤ k + 1 → ∀ s', mk8 s' → rHn m2 o b C k' s') → aX11_heaviest_29 (d + 1) (c - 1) m2 Q) →
      aX11_heaviest_35 (d + 1) c s m1 Q := by
    intro r
    induction r with
    | zero =>
      intro k c s m1 hck hk hs hr hf hlev hlow hcont
      refine gX11_heaviest_35 (d + 1) c s m1 Q ⟨fun q => by omega, fun _ => ?_⟩
      rw [show w32 (c + (-1)) = c - 1 from by rw [w32_id (by omega) (by omega)]; omega]
      refine hcont m1 hf (fun k' hk' s' hs' => ?_)
      by_cases hke : k' = k + 1
      · subst hke; exact hlow s' hs' (by unfold mk8 at hs'; omega)
      · exact hlev k' (by omega) s' hs'
    | succ r ih =>
      intro k c s m1 hck hk hs hr hf hlev hlow hcont
      have hs8 : mk8 s := by unfold mk8; omega
      have hc7 : 0 ≤ c ∧ c < 8 := by omega
      have e4 : w32 (w32 (w32 (c + 1) * 256) + s) = (8 - (k : Int)) * 256 + s := by
        simp (disch := omega) only [w32_id]; omega
      have go : ∀ v : Int, (v = (if C c = true then dpf 1 o b (dpt 1 o b C k) c s 0 else dpt 1 o b C k s).1) → aX11_heaviest_74 (d + 1) c s v 0 m1 Q := by
        intro v hv
        exact L74 8 k c s v 0 m1 hck hk hs8 (by omega) (by omega) hf hlev hlow hv (fun m2 g1 g2 g3 => ih k c (s + 1) m2 hck hk (by omega) (by omega) g1 g2 g3 hcont)
      refine gX11_heaviest_35 (d + 1) c s m1 Q ⟨fun q => s_isCase hc7 ⟨fun q2 => ⟨by omega, go _ ?_⟩, fun q2 => go _ ?_⟩, fun q => by omega⟩
      · rw [bI_0, hf 104 (by omega), hCC] at q2
        rw [if_neg q2, e4]
        exact hlev k (Nat.le_refl _) s hs8
      · rw [bI_0, hf 104 (by omega), hCC, Classical.not_not] at q2
        rw [if_pos q2]
        rfl
  have L29 : ∀ (r : Nat) (k : Nat) (m1 : jM), k + r = 8 → (∀ q, q ≠ 135 → m1 q = m q) → (∀ k' : Nat, k' ≤ k → ∀ s', mk8 s' → rHn m1 o b C k' s') → aX11_heaviest_29 (d + 1) (7 - k) m1 Q := by
    intro r
    induction r with
    | zero =>
      intro k m1 hk hf hlev
      refine gX11_heaviest_29 (d + 1) _ m1 Q ⟨fun _ => ⟨by omega, ?_⟩, fun q => by omega⟩
      have := hlev 8 (by omega) 0 mk_0
      unfold rHn at this
      rw [show (8 - ((8 : Nat) : Int)) * 256 + 0 = 0 by omega] at this
      rw [this]
      exact h m1 hf
    | succ r ih =>
      intro k m1 hk hf hlev
      refine gX11_heaviest_29 (d + 1) _ m1 Q ⟨fun q => by omega, fun _ => ?_⟩
      refine L35 256 k (7 - k) 0 m1 (by omega) (by omega) (by omega) (by omega) hf hlev (fun s' hs' hlt => by unfold mk8 at hs'; omega) (fun m2 g1 g2 => ?_)
      have := ih (k + 1) m2 (by omega) g1 g2
      rw [show (7 - ((k + 1 : Nat) : Int)) = 7 - (k : Int) - 1 by omega] at this
      exact this
  have L2 : ∀ (r : Nat) (s : Int) (m1 : jM), 0 ≤ s → s + r = 256 → (∀ q, q ≠ 135 → m1 q = m q) → (∀ s', mk8 s' → s' < s → rHn m1 o b C 0 s') → aX11_heaviest_2 (d + 1) s m1 Q := by
    intro r
    induction r with
    | zero =>
      intro s m1 hs hr hf hlow
      refine gX11_heaviest_2 (d + 1) s m1 Q ⟨fun q => by omega, fun _ => ?_⟩
      refine L29 8 0 m1 (by omega) hf (fun k' hk' s' hs' => ?_)
      rw [show k' = 0 by omega]
      exact hlow s' hs' (by unfold mk8 at hs'; omega)
    | succ r ih =>
      intro s m1 hs hr hf hlow
      have hs8 : mk8 s := by unfold mk8; omega
      have e1 : w32 (2048 + s) = (8 - ((0 : Nat) : Int)) * 256 + s := by rw [w32_id (by omega) (by omega)]; omega
      have e2 : w32 (s + 1) = s + 1 := w32_id (by omega) (by omega)
      refine gX11_heaviest_2 (d + 1) s m1 Q ⟨fun q => ⟨by omega, ?_⟩, fun q => by omega⟩
      rw [e1, e2]
      refine ih (s + 1) _ (by omega) (by omega) (fun q g1 => by rw [up_ne g1]; exact hf q g1) (fun s' hs' hlt => ?_)
      by_cases hse : s' = s
      · subst hse
        unfold rHn
        rw [up_same]
        rfl
      · exact entU _ 0 0 s s' _ hs8 hs' (by omega) (by omega) (by omega) (hlow s' hs' (by omega))
  exact gX11_heaviest (d + 1) m Q (L2 256 0 m (by omega) (by omega) (fun _ _ => rfl) (fun s' hs' hlt => by unfold mk8 at hs'; omega))

/-! tells of the reference -/
theorem pcn_full {f : Int → Bool} (n : Nat) : pcn f n = n ↔ ∀ j : Int, 0 ≤ j → j < n → f j = true := by
  induction n with
  | zero => exact ⟨fun _ j j1 j2 => by omega, fun _ => rfl⟩
  | succ n ih =>
    have e : pcn f (n + 1) = pcn f n + (if f n then 1 else 0) := rfl
    have b := pcn_nn f n
    rw [e]
    constructor
    · intro h j j1 j2
      by_cases hf : f n = true
      · rw [if_pos hf] at h
        by_cases hj : j = n
        · rw [hj]; exact hf
        · exact ih.mp (by omega) j j1 (by omega)
      · rw [if_neg hf] at h; omega
    · intro h
      rw [if_pos (h n (by omega) (by omega)), ih.mpr (fun j j1 j2 => h j j1 (by omega))]
      omega
theorem s_placeOfR {d : Nat} {s : Int} {m m0 : jM} {T : List (List Int)} {Q : Int → jM → Prop} (t1 : Top (tot (rBu m0) 8) (mts (iO m0) (rC (m0 104)) 8 0) T) (t2 : m 103 48 = T.length) (t3 : ∀ i : Int, 0 ≤ i → i < T.length → ∀ c : Int, 0 ≤ c → c < 8 → m 134 (8 * i + c) = (gtD T i).getD c.toNat (-1)) (e : ∀ c : Int, 0 ≤ c → c < 8 → m 148 c = fJ m0 s c) (hQ : ∀ v, plV m0 s v → Q v m) : jK (d + 1) zX11_placeOf [jO 11 103] m Q := by
  have hl := t1.2.2.1
  have l14 : ∀ (k : Nat) (i c : Int), 0 ≤ c → c + k = 8 → 0 ≤ i → i < T.length → (mtc m0 s T i → Q i m) → (¬ mtc m0 s T i → aX11_placeOf_2 d (i + 1) m Q) → aX11_placeOf_14 d i (pcn (fun c => decide ((gtD T i).getD c.toNat (-1) = fJ m0 s c)) c.toNat) c m Q := by
    intro k
    induction k with
    | zero =>
      intro i c c0 ck i0 il q1 q2
      refine gX11_placeOf_14 d i _ c m Q ⟨fun q => by omega, fun _ => ?_⟩
      rw [show c.toNat = 8 by omega, w32_id (by omega) (by omega)]
      have pf := pcn_full (f := fun c => decide ((gtD T i).getD c.toNat (-1) = fJ m0 s c)) 8
      refine ⟨fun g => q1 (fun c' p1 p2 => ?_), fun g => q2 (fun w => g (pf.mpr (fun c' p1 p2 => ?_)))⟩
      · have := pf.mp g c' p1 p2
        rw [decide_eq_true_eq] at this
        exact this
      · rw [decide_eq_true_eq]
        exact w c' p1 p2
    | succ k ih =>
      intro i c c0 ck i0 il q1 q2
      have n := ih i (c + 1) (by omega) (by omega) i0 il q1 q2
      have b := pcn_nn (fun c => decide ((gtD T i).getD c.toNat (-1) = fJ m0 s c)) c.toNat
      rw [pcn_s _ _ c0] at n
      refine gX11_placeOf_14 d i _ c m Q ⟨fun q => ?_, fun q => by omega⟩
      rw [w32_id (z := 8 * i) (by omega) (by omega), w32_id (z := 8 * i + c) (by omega) (by omega), w32_id (z := c + 1) (by omega) (by omega), t3 i i0 il c c0 (by omega), e c c0 (by omega)]
      refine ⟨by omega, by omega, fun g => ?_, fun g => ?_⟩
      · rw [if_pos (by rw [decide_eq_true_eq]; exact g)] at n
        rw [w32_id (by omega) (by omega)]
        exact n
      · rw [if_neg (by rw [decide_eq_true_eq]; exact g), Int.add_zero] at n
        exact n
  have l2 : ∀ (k : Nat) (i : Int), 0 ≤ i → i + k = T.length → (∀ i' : Int, 0 ≤ i' → i' < i → ¬ mtc m0 s T i') → aX11_placeOf_2 d i m Q := by
    intro k
    induction k with
    | zero =>
      intro i i0 ik hn
      exact gX11_placeOf_2 d i m Q ⟨fun q => by rw [t2] at q; omega, fun _ => hQ _ ⟨T, t1, Or.inl ⟨rfl, fun i' p1 p2 => hn i' p1 (by omega)⟩⟩⟩
    | succ k ih =>
      intro i i0 ik hn
      refine gX11_placeOf_2 d i m Q ⟨fun q => ?_, fun q => by rw [t2] at q; omega⟩
      refine l14 8 i 0 (by omega) (by omega) i0 (by omega) (fun w => hQ _ ⟨T, t1, Or.inr ⟨⟨i0, by omega⟩, w, hn⟩⟩) (fun w => ih (i + 1) (by omega) (by omega) (fun i' p1 p2 => ?_))
      by_cases hi : i' = i
      · rw [hi]; exact w
      · exact hn i' p1 (by omega)
  exact gX11_placeOf d m Q (l2 T.length 0 (by omega) (by omega) (fun i' p1 p2 => by omega))
theorem q_tells {d : Nat} {s w : Int} {m : jM} {Q : Int → jM → Prop} (h : Inv m) (hd : 340 ≤ d) (hB : ¬ ((0 ≤ s ∧ s ≤ 3) ∧ 0 ≤ w ∧ w ≤ 2) → Q (-2) m) (hN : ((0 ≤ s ∧ s ≤ 3) ∧ 0 ≤ w ∧ w ≤ 2) → m 157 s = -1 → Q (-11) m) (hS : ((0 ≤ s ∧ s ≤ 3) ∧ 0 ≤ w ∧ w ≤ 2) → m 157 s ≠ -1 → ∀ m', rQt m m' → ¬ tls m s → Q (-3) m')
    (hQ : ((0 ≤ s ∧ s ≤ 3) ∧ 0 ≤ w ∧ w ≤ 2) → m 157 s ≠ -1 → ∀ m' v, rQt m m' → tls m s → tlV m s w v → Q v m') : jK d zX11_tells [jO 11 103, jI s, jI w] m Q := by
  refine jK_deep (show 339 + 1 ≤ d by omega) (gX11_tells 339 s w m Q (s_isSheetR ⟨fun g => ?_, fun g => s_in ⟨fun g2 => ?_, fun g2 => ?_⟩⟩))
  · rw [bI_0] at g; exact hB (fun x => g x.1)
  · rw [bI_0] at g2; exact hB (fun x => g2 x.2)
  · rw [bI_0, Classical.not_not] at g g2
    have gg : (0 ≤ s ∧ s ≤ 3) ∧ 0 ≤ w ∧ w ≤ 2 := ⟨g, g2⟩
    refine ⟨by omega, fun x => hN gg x, fun x => q_costs h (by omega) (fun m1 h1 q1 al _ => jK_deep (show 0 + 4 ≤ 339 by omega) (s_reads (m0 := m) h (fun q hq => q1.1 q (by omega) (by omega) (by omega)) al.2.1 (by omega) (fun tl m2 f2 e2 => ⟨fun y => absurd y (by omega), fun _ => ?_⟩) (fun tl m2 f2 => ⟨fun _ => hS gg x m2 (rQt_t q1 ⟨fun q a b c => f2 q (by omega), fun j _ => by rw [f2 103 (by omega)]⟩) tl, fun y => absurd rfl y⟩)))⟩
    have hB0 := Inv_B h
    have hF := tls_F h tl
    -- behind the copying
    have main : ∀ m3 : jM, (∀ q, q ≠ 131 → q ≠ 148 → m3 q = m1 q) → (∀ c : Int, 0 ≤ c → c < 8 → m3 148 c = fJ m s c) → ((w = 0 → aX11_tells_88 339 0 0 m3 Q) ∧ (¬ w = 0 → (w = 1 → jK 339 zX11_lists [jO 11 103] m3 (fun v1 m1 => jK 339 zX11_placeOf [jO 11 103] m1 (fun v2 m2 => Q v2 m2))) ∧ (¬ w = 1 → jK 339 zX11_least [jO 11 103] m3 (fun v3 m3 => aX11_tells_161 339 v3 0 0 m3 Q)))) := by
      intro m3 f3 e3
      have q3 : rQt m m3 := rQt_t q1 ⟨fun q a b c => f3 q (by omega) (by omega), fun j _ => by rw [f3 103 (by omega) (by omega)]⟩
      have h3 : Inv m3 := Inv_rq h q3
      have al3 : alk (rO (m3 128)) (rB (m3 128)) (rC (m3 104)) (iO m) (rBu m) (rC (m 104)) := by rw [f3 128 (by omega) (by omega), f3 104 (by omega) (by omega)]; exact al
      refine ⟨fun w0 => ?_, fun w0 => ⟨fun w1 => ?_, fun w1 => ?_⟩⟩
      · have fin := hQ gg x m3 (fo (rC (m 104)) (vT0F m s) 8) q3 tl (by unfold tlV; rw [if_pos w0])
        have loop : ∀ (k : Nat) (c : Int), 0 ≤ c → c + k = 8 → aX11_tells_88 339 (fo (rC (m 104)) (vT0F m s) c.toNat) c m3 Q := by
          intro k
          induction k with
          | zero =>
            intro c c0 ck
            refine gX11_tells_88 339 _ c m3 Q ⟨fun q => by omega, fun _ => ?_⟩
            rw [show c = 8 by omega]
            exact fin
          | succ k ih =>
            intro c c0 ck
            have n := ih (c + 1) (by omega) (by omega)
            rw [fo_s _ _ c0] at n
            refine gX11_tells_88 339 _ c m3 Q ⟨fun q => ?_, fun q => by omega⟩
            rw [e3 c c0 (by omega), w32_id (z := c + 1) (by omega) (by omega)]
            by_cases hC : rC (m 104) c = true
            · have ok := tl.2 c c0 (by omega) hC
              have ok1 := ok.1
              rw [if_pos hC] at n
              rw [fJ_in hC]
              refine ⟨by omega, fun y => by omega, fun _ => ⟨by omega, ?_⟩⟩
              rw [w32_id (z := 8 * fX m s c) (by omega) (by omega), w32_id (by omega) (by omega)]
              have eb := al3.2.2 (fX m s c) c (by omega) (by omega) c0 (by omega) (by rw [al3.2.1 _ _ (by omega) (by omega) c0 (by omega)]; exact ok.2.1)
              unfold rB at eb
              rw [eb]
              exact ⟨by omega, n⟩
            · rw [if_neg hC] at n
              unfold fJ
              rw [if_neg hC]
              exact ⟨by omega, fun _ => n, fun y => absurd rfl y⟩
        exact loop 8 0 (by omega) (by omega)
      · refine q_lists h h3 q3 al3 (by omega) (fun m4 T f4 q4 t4 r4 et => ?_)
        refine jK_deep (show 0 + 1 ≤ 339 by omega) (s_placeOfR (s := s) (m0 := m) t4 r4.1 (fun i i0 il c c0 c8 => (r4.2 i i0 il).2 c c0 c8) (fun c c1 c2 => by rw [f4 148 (by omega) (by omega) (by omega) (by omega) (by omega) (by omega)]; exact e3 c c1 c2) (fun v hv => hQ gg x m4 v q4 tl (by unfold tlV; rw [if_neg w0, if_pos w1]; exact hv)))
      · refine q_least al3 hB0 (by omega) (fun m4 f4 q4 r4 _ => ?_)
        have fin : ∀ m5, rQt m m5 → Q (fo (rC (m 104)) (vT2F m s) 8) m5 := fun m5 q5 => hQ gg x m5 _ q5 tl (by unfold tlV; rw [if_neg w0, if_neg w1])
        have loop : ∀ (k : Nat) (c : Int) (mm : jM), 0 ≤ c → c + k = 8 → (∀ q, q ≠ 128 → q ≠ 129 → q ≠ 130 → q ≠ 132 → mm q = m4 q) → (∀ y : Int, 0 ≤ y → y < 64 → mm 128 y = m4 128 y) → aX11_tells_161 339 (vD m).1 (fo (rC (m 104)) (vT2F m s) c.toNat) c mm Q := by
          intro k
          induction k with
          | zero =>
            intro c mm c0 ck f e
            refine gX11_tells_161 339 _ _ c mm Q ⟨fun q => by omega, fun _ => ?_⟩
            rw [show c = 8 by omega]
            exact fin mm (rQt_t q3 (rQt_t q4 ⟨fun q a b c => f q (by omega) (by omega) (by omega) (by omega), fun j _ => by rw [f 103 (by omega) (by omega) (by omega) (by omega)]⟩))
          | succ k ih =>
            intro c mm c0 ck f e
            have n := fun mm => ih (c + 1) mm (by omega) (by omega)
            rw [fo_s _ _ c0] at n
            have fb := fo_b (m := m) s c.toNat
            refine gX11_tells_161 339 _ _ c mm Q ⟨fun q => ?_, fun q => by omega⟩
            rw [f 148 (by omega) (by omega) (by omega) (by omega), f4 148 (by omega) (by omega), e3 c c0 (by omega), w32_id (z := c + 1) (by omega) (by omega)]
            by_cases hC : rC (m 104) c = true
            · have ok := tl.2 c c0 (by omega) hC
              have ok1 := ok.1
              rw [if_pos hC] at n
              rw [fJ_in hC]
              refine ⟨by omega, fun y => by omega, fun _ => ⟨by omega, ?_⟩⟩
              have al4 : alk (rO (mm 128)) (rB (mm 128)) (rC (mm 104)) (iO m) (rBu m) (rC (m 104)) := by
                refine alk_t ⟨fun c' _ _ => by rw [f 104 (by omega) (by omega) (by omega) (by omega), f4 104 (by omega) (by omega)], fun j' c' a b p q => ?_, fun j' c' a b p q _ => ?_⟩ al3
                · unfold rO; rw [e _ (by omega) (by omega), f4 128 (by omega) (by omega)]
                · unfold rB; rw [e _ (by omega) (by omega), f4 128 (by omega) (by omega)]
              refine jK_deep (show 0 + 3 ≤ 339 by omega) (s_with (alk_B (alk_s al4) hB0) (by omega) (by omega) (fun m5 f5 e5 => ?_))
              have f5' : ∀ q, q ≠ 128 → q ≠ 129 → q ≠ 130 → q ≠ 132 → m5 q = mm q := f5
              have eo : rO (mm 128) (fX m s c) c = true := by rw [al4.2.1 _ _ (by omega) (by omega) c0 (by omega)]; exact ok.2.1
              rw [if_pos eo, alk_dp (al_oW al4 (fX m s c) c) 0 (Nat.le_refl 8) 0]
              have wi := with_iff (j := fX m s c) hB0 (show 0 ≤ c ∧ c < 8 by omega) hC hF
              have n5 := n m5 (fun q a b c' e' => by rw [f5' q a b c' e']; exact f q a b c' e') (fun y y1 y2 => by rw [e5 y y1 y2]; exact e y y1 y2)
              unfold vT2F vCw at n5
              refine ⟨fun g5 => ?_, fun g5 => ?_⟩
              · rw [if_pos (wi.mp g5)] at n5
                unfold vT2F vCw at fb
                rw [w32_id (by unfold vT2F vCw; omega) (by unfold vT2F vCw; omega)]
                exact n5
              · rw [if_neg (fun z => g5 (wi.mpr z))] at n5
                exact n5
            · rw [if_neg hC] at n
              unfold fJ
              rw [if_neg hC]
              exact ⟨by omega, fun _ => n mm f e, fun y => absurd rfl y⟩
        exact loop 8 0 m4 (by omega) (by omega) (fun _ _ _ _ _ => rfl) (fun _ _ _ => rfl)
    have l55 : ∀ (k : Nat) (c : Int) (mm : jM), 0 ≤ c → c + k = 8 → (∀ q, q ≠ 148 → mm q = m2 q) → (∀ y : Int, 0 ≤ y → y < c → mm 148 y = fJ m s y) → aX11_tells_55 339 w c mm Q := by
      intro k
      induction k with
      | zero =>
        intro c mm c0 ck f e
        exact gX11_tells_55 339 w c mm Q ⟨fun q => by omega, fun _ => main mm (fun q a b => by rw [f q b, f2 q a]) (fun y y1 y2 => e y y1 (by omega))⟩
      | succ k ih =>
        intro c mm c0 ck f e
        refine gX11_tells_55 339 w c mm Q ⟨fun q => ⟨by omega, by omega, ?_⟩, fun q => by omega⟩
        rw [w32_id (by omega) (by omega)]
        refine ih (c + 1) _ (by omega) (by omega) (fun q hq => by rw [up_ne hq]; exact f q hq) (fun y y1 y2 => ?_)
        rw [up_eq]
        by_cases hy : y = c
        · rw [if_pos hy, f 131 (by omega), e2 c c0 (by omega), hy]
        · rw [if_neg hy]; exact e y y1 (by omega)
    exact l55 8 0 m2 (by omega) (by omega) (fun _ _ => rfl) (fun y y1 y2 => by omega)

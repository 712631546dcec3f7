/-! tells -/
theorem fo_nxt {m : jM} (h : Inv m) (pl : iPl m) {F : Int → Int → Int} {t : Int} (h0 : 0 ≤ t) (ht : t < m 54 1) : fo (rC (m 104)) F (nxt m (t + 1)).toNat = F (m 55 t) (fo (rC (m 104)) F (nxt m t).toNat) := by
  have hp : plL 54 m 8 := pl.2.2.2.2.1
  obtain ⟨v1, v2, v3, v4⟩ := nxt_in hp h0 ht
  obtain ⟨w1, w2, w3⟩ := nxt_gap hp h0 ht
  rw [v1] at w1 w3 ⊢
  rw [fo_gap (nxt m (t + 1) - (m 55 t + 1)).toNat (a := m 55 t + 1) (by omega) (by omega) (fun c c1 c2 => by rw [← pl_C h pl (by omega) (by omega)]; exact w3 c c1 c2), fo_s _ _ v2.1, if_pos (by rw [← pl_C h pl v2.1 v2.2]; exact v3)]
theorem fo_nxt0 {m : jM} (h : Inv m) (pl : iPl m) {F : Int → Int → Int} : fo (rC (m 104)) F (nxt m 0).toNat = 0 := by
  obtain ⟨g0, g1⟩ := nxt_gap0 (m := m) pl.2.2.2.2.1
  have n08 : nxt m 0 ≤ 8 := by unfold nxt; omega
  rw [fo_gap (nxt m 0).toNat (a := 0) (by omega) (by omega) (fun c c1 c2 => by rw [← pl_C h pl c1 (by omega)]; exact g1 c c1 c2)]
  rfl
def vT0F (m : jM) (s : Int) : Int → Int → Int := fun c v => w64 (v + rBu m (fX m s c) c)
noncomputable def vT2F (m : jM) (s : Int) : Int → Int → Int := fun c v => if 0 < vCw m (fX m s c) c then v + 1 else v
def mtc (m : jM) (s : Int) (T : List (List Int)) (i : Int) : Prop := ∀ c : Int, 0 ≤ c → c < 8 → (gtD T i).getD c.toNat (-1) = fJ m s c
def plV (m : jM) (s v : Int) : Prop := ∃ T : List (List Int), Top (tot (rBu m) 8) (mts (iO m) (rC (m 104)) 8 0) T ∧ ((v = -1 ∧ ∀ i : Int, 0 ≤ i → i < T.length → ¬ mtc m s T i) ∨ ((0 ≤ v ∧ v < T.length) ∧ mtc m s T v ∧ ∀ i : Int, 0 ≤ i → i < v → ¬ mtc m s T i))
theorem plV_u {m : jM} {s v v' : Int} (h : plV m s v) (h' : plV m s v') : v = v' := by
  obtain ⟨T, a, b⟩ := h
  obtain ⟨T', a', b'⟩ := h'
  rw [← top_uniq a a'] at b'
  rcases b with ⟨b1, b2⟩ | ⟨b1, b2, b3⟩ <;> rcases b' with ⟨c1, c2⟩ | ⟨c1, c2, c3⟩
  · rw [b1, c1]
  · exact absurd c2 (b2 v' c1.1 c1.2)
  · exact absurd b2 (c2 v b1.1 b1.2)
  · apply Classical.byContradiction
    intro hne
    by_cases hl : v < v'
    · exact c3 v b1.1 hl b2
    · exact b3 v' c1.1 (by omega) c2
theorem fX_q {m m' : jM} (h1 : m' 104 = m 104) (h2 : m' 159 = m 159) (s c : Int) : fX m' s c = fX m s c := by unfold fX; rw [h1, h2]
theorem fJ_q {m m' : jM} (h1 : m' 104 = m 104) (h2 : m' 159 = m 159) (s c : Int) : fJ m' s c = fJ m s c := by unfold fJ; rw [h1, fX_q h1 h2]
theorem tls_q {m m' : jM} (h : ∀ q, 104 ≤ q → q ≤ 117 → m' q = m q) (h1 : m' 158 = m 158) (h2 : m' 159 = m 159) {s : Int} (t : tls m s) : tls m' s := by
  unfold tls fOk at t ⊢
  simp only [fX_q (h 104 (by omega) (by omega)) h2]
  rw [h1, h 104 (by omega) (by omega), iO_q h]
  exact t
theorem fJ_in {m : jM} {s c : Int} (h : rC (m 104) c = true) : fJ m s c = fX m s c := by unfold fJ; rw [if_pos h]
theorem s_sumOf {d : Nat} {s : Int} {m : jM} {Q : Int → jM → Prop} (h : Inv m) (pl : iPl m) (tl : tls m s) (e : ∀ c : Int, 0 ≤ c → c < 8 → m 93 c = fJ m s c) (hQ : Q (fo (rC (m 104)) (vT0F m s) 8) m) : jK (d + 1) zX4_sumOf [jO 4 54, jY 0 8 93] m Q := by
  have hp : plL 54 m 8 := pl.2.2.2.2.1
  have n8 := pcn_nn (rC (m 104)) 8
  have en := pl_n pl
  have loop : ∀ (k : Nat) (t : Int), 0 ≤ t → t + k = m 54 1 → aX4_sumOf_5 d 54 8 93 (fo (rC (m 104)) (vT0F m s) (nxt m t).toNat) t m Q := by
    intro k
    induction k with
    | zero =>
      intro t t0 tk
      refine gX4_sumOf_5 d 54 8 93 _ t m Q ⟨fun q => by omega, fun _ => ?_⟩
      rw [nxt_end (by omega)]
      exact hQ
    | succ k ih =>
      intro t t0 tk
      have ht : t < m 54 1 := by omega
      obtain ⟨v1, v2, v3, v4⟩ := nxt_in hp t0 ht
      have hC : rC (m 104) (m 55 t) = true := by rw [← pl_C h pl v2.1 v2.2]; exact v3
      have ok := tl.2 _ v2.1 v2.2 hC
      have e94 : m 93 (m 55 t) = fX m s (m 55 t) := by rw [e _ v2.1 v2.2, fJ_in hC]
      have n := ih (t + 1) (by omega) (by omega)
      rw [fo_nxt h pl t0 ht] at n
      have ok1 := ok.1
      have e55 : m (54 + 1) t = m 55 t := rfl
      refine gX4_sumOf_5 d 54 8 93 _ t m Q ⟨fun q => ?_, fun q => by omega⟩
      rw [e55, e94, w32_id (z := fX m s (m 55 t) * 8) (by omega) (by omega), w32_id (z := fX m s (m 55 t) * 8 + m 55 t) (by omega) (by omega), w32_id (by omega) (by omega)]
      refine ⟨by omega, by omega, by omega, ?_⟩
      have eb := pl.2.2.1.2.2 (fX m s (m 55 t)) (m 55 t) (by omega) (by omega) v2.1 v2.2 (by rw [pl.2.2.1.2.1 _ _ (by omega) (by omega) v2.1 v2.2]; exact ok.2.1)
      unfold rB at eb
      rw [show fX m s (m 55 t) * 8 + m 55 t = 8 * fX m s (m 55 t) + m 55 t by omega, show m (54 + 2) (8 * fX m s (m 55 t) + m 55 t) = rBu m (fX m s (m 55 t)) (m 55 t) from eb]
      exact n
  refine gX4_sumOf d 54 8 93 m Q ?_
  have := loop (m 54 1).toNat 0 (by omega) (by omega)
  rw [fo_nxt0 h pl] at this
  exact this
theorem fo_b {m : jM} (s : Int) (n : Nat) : 0 ≤ fo (rC (m 104)) (vT2F m s) n ∧ fo (rC (m 104)) (vT2F m s) n ≤ n := by
  induction n with
  | zero => exact ⟨Int.le_refl _, Int.le_refl _⟩
  | succ n ih =>
    have e : fo (rC (m 104)) (vT2F m s) (n + 1) = if rC (m 104) n = true then vT2F m s n (fo (rC (m 104)) (vT2F m s) n) else fo (rC (m 104)) (vT2F m s) n := rfl
    rw [e]
    split
    · unfold vT2F at ih ⊢
      split <;> omega
    · omega
theorem s_sharedOf {d : Nat} {s : Int} {m : jM} {Q : Int → jM → Prop} (h : Inv m) (pl : iPl m) (ss : iSs m) (tl : tls m s) (e : ∀ c : Int, 0 ≤ c → c < 8 → m 93 c = fJ m s c) (hQ : Q (fo (rC (m 104)) (vT2F m s) 8) m) : jK (d + 1) zX4_sharedOf [jO 4 54, jY 0 8 93] m Q := by
  have hp : plL 54 m 8 := pl.2.2.2.2.1
  have n8 := pcn_nn (rC (m 104)) 8
  have en := pl_n pl
  have loop : ∀ (k : Nat) (t : Int), 0 ≤ t → t + k = m 54 1 → aX4_sharedOf_4 d 54 8 93 (fo (rC (m 104)) (vT2F m s) (nxt m t).toNat) t m Q := by
    intro k
    induction k with
    | zero =>
      intro t t0 tk
      refine gX4_sharedOf_4 d 54 8 93 _ t m Q ⟨fun q => by omega, fun _ => ?_⟩
      rw [nxt_end (by omega)]
      exact hQ
    | succ k ih =>
      intro t t0 tk
      have ht : t < m 54 1 := by omega
      obtain ⟨v1, v2, v3, v4⟩ := nxt_in hp t0 ht
      have hC : rC (m 104) (m 55 t) = true := by rw [← pl_C h pl v2.1 v2.2]; exact v3
      have ok := tl.2 _ v2.1 v2.2 hC
      have e94 : m 93 (m 55 t) = fX m s (m 55 t) := by rw [e _ v2.1 v2.2, fJ_in hC]
      have n := ih (t + 1) (by omega) (by omega)
      rw [fo_nxt h pl t0 ht] at n
      have fb := fo_b (m := m) s (nxt m t).toNat
      have nb : nxt m t ≤ 8 := by unfold nxt; omega
      have nb0 : 0 ≤ nxt m t := by rw [v1]; exact v2.1
      have ok1 := ok.1
      have e55 : m (54 + 1) t = m 55 t := rfl
      have e61 : m (54 + 7) (8 * fX m s (m 55 t) + m 55 t) = vCw m (fX m s (m 55 t)) (m 55 t) := ss _ _ (by omega) (by omega) v2.1 v2.2
      refine gX4_sharedOf_4 d 54 8 93 _ t m Q ⟨fun q => ?_, fun q => by omega⟩
      rw [e55, e94, w32_id (z := fX m s (m 55 t) * 8) (by omega) (by omega), w32_id (z := fX m s (m 55 t) * 8 + m 55 t) (by omega) (by omega), w32_id (z := t + 1) (by omega) (by omega), show fX m s (m 55 t) * 8 + m 55 t = 8 * fX m s (m 55 t) + m 55 t by omega, e61]
      refine ⟨by omega, by omega, by omega, fun g => ?_, fun g => ?_⟩ <;> rw [w32_id (by omega) (by omega)] <;> unfold vT2F at n
      · rw [if_pos g] at n; exact n
      · rw [if_neg g] at n; rw [Int.add_zero]; exact n
  refine gX4_sharedOf d 54 8 93 m Q ?_
  have := loop (m 54 1).toNat 0 (by omega) (by omega)
  rw [fo_nxt0 h pl] at this
  exact this
theorem s_placeOfC {d : Nat} {s : Int} {m : jM} {Q : Int → jM → Prop} (nx : iNx m) (e : ∀ c : Int, 0 ≤ c → c < 8 → m 93 c = fJ m s c) (hQ : ∀ v, plV m s v → Q v m) : jK (d + 1) zX3_placeOf [jO 3 81, jY 0 8 93] m Q := by
  obtain ⟨T, t1, t2, t3⟩ := nx
  have hl := t1.2.2.1
  have l17 : ∀ (k : Nat) (i c x : Int), 0 ≤ c → c + k = 8 → 0 ≤ i → i < T.length → (x = 0 ∨ x = 1) → (x = 1 ↔ ∀ c' : Int, 0 ≤ c' → c' < c → (gtD T i).getD c'.toNat (-1) = fJ m s c') → (mtc m s T i → Q i m) → (¬ mtc m s T i → aX3_placeOf_2 d 8 93 (i + 1) m Q) → aX3_placeOf_15 d 8 93 i x c m Q := by
    intro k
    induction k with
    | zero =>
      intro i c x c0 ck i0 il hx hm q1 q2
      refine gX3_placeOf_15 d 8 93 i x c m Q ⟨fun q => by omega, fun _ => ⟨fun g => ?_, fun g => ?_⟩⟩
      · rw [w32_id (by omega) (by omega)]
        exact q2 (fun w => by have := hm.mpr (fun c' p1 p2 => w c' p1 (by omega)); omega)
      · exact q1 (fun c' p1 p2 => hm.mp (by omega) c' p1 (by omega))
    | succ k ih =>
      intro i c x c0 ck i0 il hx hm q1 q2
      have ih' := fun x => ih i (c + 1) x (by omega) (by omega) i0 il
      refine gX3_placeOf_15 d 8 93 i x c m Q ⟨fun q => ⟨fun g => ?_, fun g => ?_⟩, fun q => by omega⟩
      · rw [w32_id (by omega) (by omega)]
        refine ih' 0 (Or.inl rfl) ⟨fun w => by omega, fun w => ?_⟩ q1 q2
        have := hm.mpr (fun c' p1 p2 => w c' p1 (by omega))
        omega
      · rw [w32_id (z := i * 8) (by omega) (by omega), w32_id (z := i * 8 + c) (by omega) (by omega), w32_id (by omega) (by omega), show i * 8 + c = 8 * i + c by omega, (t3 i i0 il).2 c c0 (by omega), e c c0 (by omega)]
        have hm1 := hm.mp (by omega)
        refine ⟨by omega, by omega, fun g2 => ih' 1 (Or.inr rfl) ⟨fun _ c' p1 p2 => ?_, fun _ => rfl⟩ q1 q2, fun g2 => ih' 0 (Or.inl rfl) ⟨fun w => by omega, fun w => absurd (w c c0 (by omega)) g2⟩ q1 q2⟩
        by_cases hc : c' = c
        · rw [hc]; exact g2
        · exact hm1 c' p1 (by omega)
  have l2 : ∀ (k : Nat) (i : Int), 0 ≤ i → i + k = T.length → (∀ i' : Int, 0 ≤ i' → i' < i → ¬ mtc m s T i') → aX3_placeOf_2 d 8 93 i m Q := by
    intro k
    induction k with
    | zero =>
      intro i i0 ik hn
      refine gX3_placeOf_2 d 8 93 i m Q ⟨fun q => by rw [t2] at q; omega, fun _ => hQ _ ⟨T, t1, Or.inl ⟨rfl, fun i' p1 p2 => hn i' p1 (by omega)⟩⟩⟩
    | succ k ih =>
      intro i i0 ik hn
      refine gX3_placeOf_2 d 8 93 i m Q ⟨fun q => ?_, fun q => by rw [t2] at q; omega⟩
      refine l17 8 i 0 1 (by omega) (by omega) i0 (by omega) (Or.inr rfl) ⟨fun _ c' p1 p2 => by omega, fun _ => rfl⟩ (fun w => hQ _ ⟨T, t1, Or.inr ⟨⟨i0, by omega⟩, w, hn⟩⟩) (fun w => ih (i + 1) (by omega) (by omega) (fun i' p1 p2 => ?_))
      by_cases hi : i' = i
      · rw [hi]; exact w
      · exact hn i' p1 (by omega)
  exact gX3_placeOf d 8 93 m Q (l2 T.length 0 (by omega) (by omega) (fun i' p1 p2 => by omega))
/-- behind refreshPlan, where only next ones, shares are reckoned -/
theorem r_next2 {d : Nat} {m : jM} {Q : Int → jM → Prop} (h1 : Inv m) (p1 : m 0 12 = 1) (hQ : ∀ m', Inv m' → iPl m' → iNx m' → (∀ q, q ≠ 0 → (q < 81 ∨ 87 < q) → m' q = m q) → (∀ j, ¬ (12 ≤ j ∧ j ≤ 15) → m' 0 j = m 0 j) → Q 0 m') (hd : 11 ≤ d) : jK d zX10_refreshNextOnes [jO 10 0] m Q := by
  have pl1 := Inv_pl h1 p1
  refine jK_deep (show 10 + 1 ≤ d by omega) (gX10_refreshNextOnes 10 m Q (jK_deep (show 9 + 1 ≤ 10 by omega) (gX10_refreshPlan 9 m _ ⟨fun g => by omega, fun _ => ⟨fun g => ?_, fun g => ?_⟩⟩)))
  · have hB := iPl_B h1 pl1
    refine jK_deep (show 0 + 4 ≤ 10 by omega) (s_nfind pl1.2.2.2.2 hB (fun m2 T f2 t2 z2 w2 => ?_))
    have fr : ∀ q, q ≠ 0 → (q < 81 ∨ 87 < q) → jUp m2 0 14 1 q = m q := fun q q0 q1 => by rw [up_ne q0, f2 q q1]
    have fz : ∀ j, j ≠ 14 → jUp m2 0 14 1 0 j = m 0 j := fun j hj => by rw [up_oth hj, f2 0 (by omega)]
    have pl2 : iPl (jUp m2 0 14 1) := iPl_fr pl1 (fun q g => fr q (by omega) (by omega))
    have nx2 : iNx (jUp m2 0 14 1) := by
      unfold iNx
      rw [up_ne (show ¬ (81 : Int) = 0 by omega), up_ne (show ¬ (82 : Int) = 0 by omega), up_ne (show ¬ (83 : Int) = 0 by omega), iO_q (fun q a b => fr q (by omega) (by omega)), rBu_q (fun q a b => fr q (by omega) (by omega)), fr 104 (by omega) (by omega)]
      refine ⟨T, alk_top pl1.2.2.1 t2, z2, fun i i1 i2 => ⟨?_, (w2 i i1 i2).2⟩⟩
      rw [(w2 i i1 i2).1]
      exact tot_congr pl1.2.2.1.2.2 8 (Nat.le_refl 8) 0 _ (t2.2.1 _ (gtD_mem i1 i2))
    obtain ⟨a1, a2, a3, a4, a5, a6, a7, a8, a9, a10, ⟨b1, b2, b3, b4⟩⟩ := id h1
    have i2 : Inv (jUp m2 0 14 1) := by
      refine Inv_ca h1 (fun q a b => fr q a (by omega)) (fun q a b => fr q (by omega) (by omega)) (fz 2 (by omega)) ?_
      have w12 : jUp m2 0 14 1 0 12 = 1 := by rw [fz 12 (by omega)]; exact p1
      refine ⟨Or.inr ⟨w12, pl2⟩, ?_, Or.inr ⟨up_same, w12, nx2⟩, ?_⟩
      · rw [fz 13 (by omega)]
        exact b2.imp id (fun x => ⟨x.1, w12, iSs_fr x.2.2 (fun q g => fr q (by omega) (by omega))⟩)
      · rw [fz 15 (by omega)]
        exact b4.imp id (fun x => ⟨x.1, w12, iDy_fr x.2.2 (fun q g => fr q (by omega) (by omega))⟩)
    exact hQ _ i2 pl2 nx2 fr (fun j hj => fz j (by omega))
  · refine hQ m h1 pl1 ?_ (fun _ _ _ => rfl) (fun _ _ => rfl)
    obtain ⟨a1, a2, a3, a4, a5, a6, a7, a8, a9, a10, ⟨b1, b2, b3, b4⟩⟩ := id h1
    rcases b3 with x | x
    · exact absurd x g
    · exact x.2.2
theorem r_shares2 {d : Nat} {m : jM} {Q : Int → jM → Prop} (h1 : Inv m) (p1 : m 0 12 = 1) (hQ : ∀ m', Inv m' → iPl m' → iSs m' → (∀ q, q ≠ 0 → q ≠ 60 → q ≠ 61 → m' q = m q) → (∀ j, ¬ (12 ≤ j ∧ j ≤ 15) → m' 0 j = m 0 j) → Q 0 m') (hd : 11 ≤ d) : jK d zX10_refreshShares [jO 10 0] m Q := by
  have pl1 := Inv_pl h1 p1
  refine jK_deep (show 10 + 1 ≤ d by omega) (gX10_refreshShares 10 m Q (jK_deep (show 9 + 1 ≤ 10 by omega) (gX10_refreshPlan 9 m _ ⟨fun g => by omega, fun _ => ⟨fun g => ?_, fun g => ?_⟩⟩)))
  · have hB := iPl_B h1 pl1
    refine jK_deep (show 0 + 3 ≤ 10 by omega) (s_share (p := 54) pl1.2.2.2.2 pl1.2.1 hB (fun m2 f2 w2 => ?_))
    have fr : ∀ q, q ≠ 0 → q ≠ 60 → q ≠ 61 → jUp m2 0 13 1 q = m q := fun q q0 q1 q2 => by rw [up_ne q0, f2 q q1 q2]
    have fz : ∀ j, j ≠ 13 → jUp m2 0 13 1 0 j = m 0 j := fun j hj => by rw [up_oth hj, f2 0 (by omega) (by omega)]
    have pl2 : iPl (jUp m2 0 13 1) := iPl_fr pl1 (fun q g => fr q (by omega) (by omega) (by omega))
    have ss2 : iSs (jUp m2 0 13 1) := by
      intro j c j1 j2 c1 c2
      rw [up_ne (show ¬ (61 : Int) = 0 by omega), iO_q (fun q a b => fr q (by omega) (by omega) (by omega)), rBu_q (fun q a b => fr q (by omega) (by omega) (by omega)), fr 104 (by omega) (by omega) (by omega)]
      exact (w2 j c j1 j2 c1 c2).trans (alk_cw pl1.2.2.1 (Nat.le_refl 8) 0 j c)
    obtain ⟨a1, a2, a3, a4, a5, a6, a7, a8, a9, a10, ⟨b1, b2, b3, b4⟩⟩ := id h1
    have i2 : Inv (jUp m2 0 13 1) := by
      refine Inv_ca h1 (fun q a b => fr q a (by omega) (by omega)) (fun q a b => fr q (by omega) (by omega) (by omega)) (fz 2 (by omega)) ?_
      have w12 : jUp m2 0 13 1 0 12 = 1 := by rw [fz 12 (by omega)]; exact p1
      refine ⟨Or.inr ⟨w12, pl2⟩, Or.inr ⟨up_same, w12, ss2⟩, ?_, ?_⟩
      · rw [fz 14 (by omega)]
        exact b3.imp id (fun x => ⟨x.1, w12, iNx_fr x.2.2 (fun q g => fr q (by omega) (by omega) (by omega))⟩)
      · rw [fz 15 (by omega)]
        exact b4.imp id (fun x => ⟨x.1, w12, iDy_fr x.2.2 (fun q g => fr q (by omega) (by omega) (by omega))⟩)
    exact hQ _ i2 pl2 ss2 fr (fun j hj => fz j (by omega))
  · refine hQ m h1 pl1 ?_ (fun _ _ _ _ => rfl) (fun _ _ => rfl)
    obtain ⟨a1, a2, a3, a4, a5, a6, a7, a8, a9, a10, ⟨b1, b2, b3, b4⟩⟩ := id h1
    rcases b2 with x | x
    · exact absurd x g
    · exact x.2.2
def tlV (m : jM) (s w v : Int) : Prop := if w = 0 then v = fo (rC (m 104)) (vT0F m s) 8 else if w = 1 then plV m s v else v = fo (rC (m 104)) (vT2F m s) 8
theorem tlV_u {m : jM} {s w v v' : Int} (h : tlV m s w v) (h' : tlV m s w v') : v = v' := by
  unfold tlV at h h'
  by_cases w0 : w = 0
  · rw [if_pos w0] at h h'; rw [h, h']
  · by_cases w1 : w = 1
    · rw [if_neg w0, if_pos w1] at h h'; exact plV_u h h'
    · rw [if_neg w0, if_neg w1] at h h'; rw [h, h']
theorem c_tells {d : Nat} {s w : Int} {m : jM} {Q : Int → jM → Prop} (h : Inv m) (hd : 20 ≤ d) (hB : ¬ ((0 ≤ s ∧ s ≤ 3) ∧ 0 ≤ w ∧ w ≤ 2) → Q (-2) m) (hN : ((0 ≤ s ∧ s ≤ 3) ∧ 0 ≤ w ∧ w ≤ 2) → m 157 s = -1 → Q (-11) m) (hS : ((0 ≤ s ∧ s ≤ 3) ∧ 0 ≤ w ∧ w ≤ 2) → m 157 s ≠ -1 → ∀ m', Inv m' → cQt m m' → ¬ tls m' s → Q (-3) m')
    (hQ : ((0 ≤ s ∧ s ≤ 3) ∧ 0 ≤ w ∧ w ≤ 2) → m 157 s ≠ -1 → ∀ m' v, Inv m' → cQt m m' → tls m' s → tlV m' s w v → Q v m') : jK d zX10_tells [jO 10 0, jI s, jI w] m Q := by
  refine jK_deep (show 19 + 1 ≤ d by omega) (gX10_tells 19 s w m Q (s_isSheetC ⟨fun g => ?_, fun g => ⟨fun g2 => hB (by omega), fun g2 => ⟨fun g3 => hB (by omega), fun g3 => ?_⟩⟩⟩))
  · rw [bI_0] at g; exact hB (fun x => g x.1)
  · rw [bI_0, Classical.not_not] at g
    have gg : (0 ≤ s ∧ s ≤ 3) ∧ 0 ≤ w ∧ w ≤ 2 := ⟨g, by omega, by omega⟩
    obtain ⟨a1, a2, a3, a4, a5, a6⟩ := Inv_sh h s g.1 (by omega)
    rw [a1]
    refine ⟨by omega, fun x => hN gg (by rw [a2]; exact x), fun x => r_plan h (fun m1 h1 p1 pl1 q1 => ⟨by omega, ?_⟩) (by omega)⟩
    have x158 : m 157 s ≠ -1 := by rw [a2]; exact x
    rw [show m1 94 s = 95 + 2 * s from (Inv_sh h1 s g.1 (by omega)).1]
    refine jK_deep (show 0 + 2 ≤ 19 by omega) (s_follows h1 pl1 ⟨g.1, by omega⟩ (fun tl m2 f2 e2 => ?_) (fun tl m2 f2 => ?_))
    · have h2 : Inv m2 := Inv_cq h1 (fun q _ a => f2 q (by omega)) (f2 0 (by omega))
      have q2 : cQt m m2 := cQt_t q1 ⟨fun q a b => f2 q (by omega), fun j _ => by rw [f2 0 (by omega)]⟩
      have p2 : m2 0 12 = 1 := by rw [f2 0 (by omega)]; exact p1
      have pl2 := Inv_pl h2 p2
      have tl2 : tls m2 s := tls_q (fun q a b => f2 q (by omega)) (f2 158 (by omega)) (f2 159 (by omega)) tl
      have e2' : ∀ c : Int, 0 ≤ c → c < 8 → m2 93 c = fJ m2 s c := fun c c1 c2 => by rw [fJ_q (f2 104 (by omega)) (f2 159 (by omega))]; exact e2 c c1 c2
      refine ⟨fun y => absurd y (by omega), fun _ => ⟨fun w0 => jK_deep (show 0 + 1 ≤ 19 by omega) (s_sumOf h2 pl2 tl2 e2' (hQ gg x158 m2 _ h2 q2 tl2 (by unfold tlV; rw [if_pos w0]))), fun w0 => ⟨fun w1 => ?_, fun w1 => ?_⟩⟩⟩
      · refine r_next2 h2 p2 (fun m3 h3 pl3 nx3 f3 z3 => ?_) (by omega)
        have q3 : cQt m m3 := cQt_t q2 ⟨fun q a b => f3 q a (by omega), z3⟩
        have tl3 : tls m3 s := tls_q (fun q a b => f3 q (by omega) (by omega)) (f3 158 (by omega) (by omega)) (f3 159 (by omega) (by omega)) tl2
        refine jK_deep (show 0 + 1 ≤ 19 by omega) (s_placeOfC (s := s) nx3 (fun c c1 c2 => by rw [f3 93 (by omega) (by omega), fJ_q (f3 104 (by omega) (by omega)) (f3 159 (by omega) (by omega))]; exact e2' c c1 c2) (fun v hv => hQ gg x158 m3 v h3 q3 tl3 (by unfold tlV; rw [if_neg w0, if_pos w1]; exact hv)))
      · refine r_shares2 h2 p2 (fun m3 h3 pl3 ss3 f3 z3 => ?_) (by omega)
        have q3 : cQt m m3 := cQt_t q2 ⟨fun q a b => f3 q a (by omega) (by omega), z3⟩
        have tl3 : tls m3 s := tls_q (fun q a b => f3 q (by omega) (by omega) (by omega)) (f3 158 (by omega) (by omega) (by omega)) (f3 159 (by omega) (by omega) (by omega)) tl2
        refine jK_deep (show 0 + 1 ≤ 19 by omega) (s_sharedOf h3 pl3 ss3 tl3 (fun c c1 c2 => by rw [f3 93 (by omega) (by omega) (by omega), fJ_q (f3 104 (by omega) (by omega) (by omega)) (f3 159 (by omega) (by omega) (by omega))]; exact e2' c c1 c2) (hQ gg x158 m3 _ h3 q3 tl3 (by unfold tlV; rw [if_neg w0, if_neg w1])))
    · have h2 : Inv m2 := Inv_cq h1 (fun q _ a => f2 q (by omega)) (f2 0 (by omega))
      have q2 : cQt m m2 := cQt_t q1 ⟨fun q a b => f2 q (by omega), fun j _ => by rw [f2 0 (by omega)]⟩
      have := hS gg x158 m2 h2 q2 (fun y => tl (tls_q (fun q a b => (f2 q (by omega)).symm) (f2 158 (by omega)).symm (f2 159 (by omega)).symm y))
      exact ⟨fun _ => this, fun y => absurd rfl y⟩
/-! a sheet that tells a matching: it is one of all -/
def lJ (J : Int → Int) : Nat → List Int
  | 0 => []
  | k + 1 => J (7 - k) :: lJ J k
theorem mem_mts {o : Int → Int → Bool} {C : Int → Bool} {J : Int → Int} (k : Nat) (hk : k ≤ 8) : ∀ s, (∀ c : Int, 8 - (k : Int) ≤ c → c < 8 → (C c = true → (0 ≤ J c ∧ J c < 8) ∧ o (J c) c = true ∧ bt s (J c) = false ∧ ∀ c' : Int, 8 - (k : Int) ≤ c' → c' < c → C c' = true → J c' ≠ J c) ∧ (¬ C c = true → J c = -1)) → lJ J k ∈ mts o C k s := by
  induction k with
  | zero => intro s _; exact List.mem_cons_self
  | succ k ih =>
    intro s h
    have h7 := h (7 - k) (by omega) (by omega)
    rw [mts_s]
    by_cases hC : C (7 - k) = true
    · rw [if_pos hC]
      obtain ⟨a, b, c, _⟩ := h7.1 hC
      refine fm_mem.mpr ⟨(J (7 - k)).toNat, by omega, ?_⟩
      rw [show (((J (7 - (k : Int))).toNat : Nat) : Int) = J (7 - k) by omega, if_pos ⟨c, b⟩]
      refine List.mem_map.mpr ⟨lJ J k, ih (by omega) _ (fun c' c1 c2 => ?_), rfl⟩
      obtain ⟨p, q⟩ := h c' (by omega) c2
      refine ⟨fun g => ?_, q⟩
      obtain ⟨p1, p2, p3, p4⟩ := p g
      refine ⟨p1, p2, ?_, fun c'' x1 x2 => p4 c'' (by omega) x2⟩
      have hne : J c' ≠ J (7 - k) := fun e => p4 (7 - k) (by omega) (by omega) hC e.symm
      rw [bt_or, p3, bt_one (by omega) (by omega)]
      simp [hne]
    · rw [if_neg hC]
      refine List.mem_map.mpr ⟨lJ J k, ih (by omega) _ (fun c' c1 c2 => ?_), ?_⟩
      · obtain ⟨p, q⟩ := h c' (by omega) c2
        refine ⟨fun g => ?_, q⟩
        obtain ⟨p1, p2, p3, p4⟩ := p g
        exact ⟨p1, p2, p3, fun c'' x1 x2 => p4 c'' (by omega) x2⟩
      · rw [← h7.2 hC]; rfl
theorem tls_F {m : jM} (h : Inv m) {s : Int} (t : tls m s) : (vD m).1 ≠ dpF := by
  have hm : lJ (fJ m s) 8 ∈ mts (iO m) (rC (m 104)) 8 0 := by
    refine mem_mts 8 (Nat.le_refl 8) 0 (fun c c1 c2 => ⟨fun hC => ?_, fun hC => by unfold fJ; rw [if_neg hC]⟩)
    have ok := t.2 c (by omega) c2 hC
    have ok1 := ok.1
    rw [fJ_in hC]
    refine ⟨by omega, ok.2.1, bt_0 _, fun c' x1 x2 x3 => ?_⟩
    rw [fJ_in x3]
    exact ok.2.2 c' (by omega) x2 x3
  rcases lc_mts (C := rC (m 104)) (Inv_B h) 8 (Nat.le_refl 8) 0 mk_0 with g | g
  · rw [g.1] at hm; cases hm
  · have := g.1
    unfold vD
    omega

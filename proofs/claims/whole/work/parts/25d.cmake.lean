/-! the class's Rounds: keep, make -/
theorem s_keep {d : Nat} {i U : Int} {m : jM} {Q : Int → jM → Prop} (hi : 0 ≤ i ∧ i < 64)
    (h : ∀ m' : jM, (∀ q, q ≠ 76 → q ≠ 77 → m' q = m q) → (∀ x : Int, m' 76 x = if x = 6 * i + 3 then iOr (m 70 2) (iShl U 8) else if x = 6 * i + 2 then m 70 2 else if x = 6 * i + 1 then m 70 1 else if x = 6 * i then m 70 0 else m 76 x) →
      (∀ x : Int, m' 77 x = if 16 * i + 8 ≤ x ∧ x < 16 * i + 16 then m 79 (x - (16 * i + 8)) else if 16 * i ≤ x ∧ x < 16 * i + 8 then m 78 (x - 16 * i) else m 77 x) → Q 0 m') : jK (d + 1) zX5_keep [jO 5 75, jI i, jI U, jO 2 70] m Q := by
  have e6 : w32 (i * 6) = 6 * i := by rw [w32_id (by omega) (by omega)]; omega
  have e61 : w32 (w32 (i * 6) + 1) = 6 * i + 1 := by rw [e6, w32_id (by omega) (by omega)]
  have e62 : w32 (w32 (i * 6) + 2) = 6 * i + 2 := by rw [e6, w32_id (by omega) (by omega)]
  have e63 : w32 (w32 (i * 6) + 3) = 6 * i + 3 := by rw [e6, w32_id (by omega) (by omega)]
  have e2 : w32 (i * 2) = 2 * i := by rw [w32_id (by omega) (by omega)]; omega
  have e16 : w32 (w32 (i * 2) * 8) = 16 * i := by rw [e2, w32_id (by omega) (by omega)]; omega
  have e17 : w32 (w32 (w32 (i * 2) + 1) * 8) = 16 * i + 8 := by rw [e2, w32_id (z := 2 * i + 1) (by omega) (by omega), w32_id (by omega) (by omega)]; omega
  refine gX5_keep d i U m Q ⟨by omega, by omega, by omega, by omega, by omega, by omega, ?_⟩
  rw [e63, e62, e61, e6, e16, e17]
  simp only [up_ne (show ¬ (70 : Int) = 76 by omega)]
  refine h _ (fun q g1 g2 => ?_) (fun x => ?_) (fun x => ?_)
  · funext x
    unfold jCp
    rw [if_neg (by rintro ⟨g, _⟩; exact g2 g), if_neg (by rintro ⟨g, _⟩; exact g2 g), up_ne g1, up_ne g1, up_ne g1, up_ne g1]
  · unfold jCp
    rw [if_neg (by rintro ⟨g, _⟩; omega), if_neg (by rintro ⟨g, _⟩; omega), up_eq, up_eq, up_eq, up_eq]
  · unfold jCp
    by_cases g : 16 * i + 8 ≤ x ∧ x < 16 * i + 16
    · rw [if_pos (by omega), if_pos g, if_neg (by rintro ⟨k, _⟩; omega), Int.zero_add]
      rw [up_ne (by omega), up_ne (by omega), up_ne (by omega), up_ne (by omega)]
    · rw [if_neg (by rintro ⟨_, k⟩; omega), if_neg g]
      by_cases g2 : 16 * i ≤ x ∧ x < 16 * i + 8
      · rw [if_pos (by omega), if_pos g2, Int.zero_add]
        rw [up_ne (by omega), up_ne (by omega), up_ne (by omega), up_ne (by omega)]
      · rw [if_neg (by rintro ⟨_, k⟩; omega), if_neg g2]
        rw [up_ne (by omega), up_ne (by omega), up_ne (by omega), up_ne (by omega)]
/-- what round i is told as -/
def rdFi (O : Int → Int → Bool) (b : Int → Int → Int) (C : Int → Bool) (U : Int) (s : (Int → Int) × (Int → Int)) (m : jM) (i : Int) : Prop :=
  m 76 (6 * i) = (rdM O b C s).1 ∧ m 76 (6 * i + 1) = (rdM O b C s).2.1 ∧ m 76 (6 * i + 2) = (rdM O b C s).2.2 ∧ m 76 (6 * i + 3) = iOr (rdM O b C s).2.2 (iShl (iAnd U (iXor (rdM O b C s).2.1 (-1))) 8) ∧ m 76 (6 * i + 4) = rdR O b C s ∧ m 76 (6 * i + 5) = rdT O b s ∧
  ∀ k : Int, 0 ≤ k → k < 8 → m 77 (16 * i + k) = s.1 k ∧ m 77 (16 * i + 8 + k) = s.2 k
theorem s_make {d : Nat} {m : jM} {Q : Int → jM → Prop} (hr : ∀ c : Int, 0 ≤ c → c < 8 → mk8 (m 57 c)) (hB : dpB (pO (m 57)) (rB (m 56)))
    (h : ∀ (m' : jM) (N : Nat), (∀ q, (q < 70 ∨ (74 < q ∧ q < 75) ∨ 80 < q) → m' q = m q) → rdL (pO (m 57)) (rB (m 56)) (bt (m 54 0)) (rd0 (pO (m 57)) (rB (m 56))) N → m' 75 0 = N + 1 →
      (∀ i : Nat, i ≤ N → rdFi (pO (m 57)) (rB (m 56)) (bt (m 54 0)) (m 54 0) (rdN (pO (m 57)) (rB (m 56)) (bt (m 54 0)) (rd0 (pO (m 57)) (rB (m 56))) i) m' i) → Q 0 m') : jK (d + 5) zX5_make [jO 5 75, jO 4 54, jO 2 70] m Q := by
  generalize hO : pO (m 57) = O at *
  generalize hb : rB (m 56) = b at *
  generalize hC : bt (m 54 0) = C at *
  obtain ⟨N, hN⟩ := rdL_ex O b C (rd0 O b)
  have hs0 : ∀ j : Int, in64 ((rd0 O b).1 j) ∧ in64 ((rd0 O b).2 j) := by
    intro j
    refine ⟨by show in64 0; unfold in64; omega, ?_⟩
    show in64 (rdP O b j)
    unfold rdP in64
    split
    · rename_i g
      have := fpF_r hB g 8 0 (-1) (by omega) (by omega) (by omega)
      split <;> omega
    · omega
  have hsi : ∀ (i : Nat) (j : Int), in64 ((rdN O b C (rd0 O b) i).1 j) ∧ in64 ((rdN O b C (rd0 O b) i).2 j) := by
    intro i
    induction i with
    | zero => exact hs0
    | succ i ih =>
      intro j
      constructor
      · show in64 (if _ then _ else _)
        split
        · exact w64_in _
        · exact (ih j).1
      · show in64 (if _ then _ else _)
        split
        · exact w64_in _
        · exact (ih j).2
  have L44 : ∀ (r : Nat) (i : Nat) (x v : Int) (m1 : jM), x = i → i + r = N + 1 → v ≠ -1 → (∀ q, (q < 70 ∨ (74 < q ∧ q < 75) ∨ 80 < q) → m1 q = m q) → m1 75 0 = x → (∀ j : Int, 0 ≤ j → j < 8 → m1 78 j = (rdN O b C (rd0 O b) i).1 j ∧ m1 79 j = (rdN O b C (rd0 O b) i).2 j) → (∀ k : Nat, k < i → rdFi O b C (m 54 0) (rdN O b C (rd0 O b) k) m1 k) → 1 ≤ r → aX5_make_44 (d + 4) v x m1 Q := by
    intro r
    induction r with
    | zero => intro i x v m1 _ _ _ _ _ _ _ h; omega
    | succ r ih =>
      intro i x v m1 hxi hir hv f0 f1 f2 f3 _
      have hN44 := hN.1
      have ex : w32 (x + 1) = x + 1 := w32_id (by omega) (by omega)
      have e4 : w32 (w32 (x * 6) + 4) = 6 * x + 4 := by rw [w32_id (z := x * 6) (by omega) (by omega), w32_id (by omega) (by omega)]; omega
      have e5 : w32 (w32 (x * 6) + 5) = 6 * x + 5 := by rw [w32_id (z := x * 6) (by omega) (by omega), w32_id (by omega) (by omega)]; omega
      have k57 := f0 57 (by omega)
      have k56 := f0 56 (by omega)
      have k54 := f0 54 (by omega)
      refine gX5_make_44 (d + 4) v x m1 Q ⟨fun _ => ⟨fun q => absurd q hv, fun _ => ?_⟩, fun q => by omega⟩
      generalize hs : rdN O b C (rd0 O b) i = s at *
      refine jK_deep (show (d + 2) + 2 ≤ d + 4 by omega) (s_findTight (s := s) (fun j j1 j2 => (f2 j j1 j2).1) (fun j j1 j2 => (f2 j j1 j2).2) (fun m2 g0 g1 => ?_))
      rw [k57, k56, hO, hb] at g1 ⊢
      refine jK_deep (show (d + 1) + 3 ≤ d + 4 by omega) (s_gfind (y := 80) (by omega) (fun c c1 c2 => (g1 c c1 c2).1) (fun m3 p0 p1 p2 => ?_))
      rw [g0 54 (by omega), k54] at p1
      have hmk := rdM_ok O b C s
      obtain ⟨eA, eB, eN⟩ := mMk_u (C' := fun c => C c = true) (E' := rdE O b s) (fun c _ _ => by rw [hC]) (fun j c j1 j2 c1 c2 _ => (g1 c c1 c2).2 j j1 j2) p1 hmk
      have k78 : ∀ j : Int, 0 ≤ j → j < 8 → m3 78 j = s.1 j := fun j j1 j2 => by rw [p0 78 (by omega), g0 78 (by omega)]; exact (f2 j j1 j2).1
      have k79 : ∀ j : Int, 0 ≤ j → j < 8 → m3 79 j = s.2 j := fun j j1 j2 => by rw [p0 79 (by omega), g0 79 (by omega)]; exact (f2 j j1 j2).2
      have n57 : m3 57 = m 57 := by rw [p0 57 (by omega), g0 57 (by omega), k57]
      have n56 : m3 56 = m 56 := by rw [p0 56 (by omega), g0 56 (by omega), k56]
      have n54 : m3 54 = m 54 := by rw [p0 54 (by omega), g0 54 (by omega), k54]
      refine jK_deep (show (d + 2) + 2 ≤ d + 4 by omega) (s_leastSlack (s := s) k78 k79 ?_)
      rw [n57, n56, hO, hb, eA, eB]
      have eR : rdV O b s (rdM O b C s).2.1 (rdM O b C s).2.2 64 0 (-1) = rdR O b C s := rfl
      rw [eR, n54]
      refine jK_deep (show (d + 3) + 1 ≤ d + 4 by omega) (s_keep ⟨by omega, by omega⟩ (fun m4 q0 q1 q2 => ⟨by omega, by omega, ?_⟩))
      rw [e4, e5, ex]
      have k75 : m4 75 0 = x := by rw [q0 75 (by omega) (by omega), p0 75 (by omega), g0 75 (by omega), f1]
      rw [up_ne (show ¬ (75 : Int) = 76 by omega), up_ne (show ¬ (75 : Int) = 76 by omega), k75, ex]
      -- the memory behind the round
      have a76 : ∀ z : Int, jUp (jUp (jUp m4 76 (6 * x + 4) (rdR O b C s)) 76 (6 * x + 5) (rdT O b s)) 75 0 (x + 1) 76 z = if z = 6 * x + 5 then rdT O b s else if z = 6 * x + 4 then rdR O b C s else m4 76 z := by
        intro z; rw [up_ne (by omega), up_eq, up_eq]
      have aO : ∀ q, q ≠ 75 → q ≠ 76 → jUp (jUp (jUp m4 76 (6 * x + 4) (rdR O b C s)) 76 (6 * x + 5) (rdT O b s)) 75 0 (x + 1) q = m4 q := by
        intro q h1 h2; rw [up_ne h1, up_ne h2, up_ne h2]
      have a75 : jUp (jUp (jUp m4 76 (6 * x + 4) (rdR O b C s)) 76 (6 * x + 5) (rdT O b s)) 75 0 (x + 1) 75 0 = x + 1 := up_same
      generalize jUp (jUp (jUp m4 76 (6 * x + 4) (rdR O b C s)) 76 (6 * x + 5) (rdT O b s)) 75 0 (x + 1) = m5 at *
      have a77 := aO 77 (by omega) (by omega)
      have frame5 : ∀ q, (q < 70 ∨ (74 < q ∧ q < 75) ∨ 80 < q) → m5 q = m q := by
        intro q hq
        rw [aO q (by omega) (by omega), q0 q (by omega) (by omega), p0 q (by omega), g0 q (by omega)]
        exact f0 q hq
      have facts : ∀ k : Nat, k ≤ i → rdFi O b C (m 54 0) (rdN O b C (rd0 O b) k) m5 k := by
        intro k hk
        by_cases hki : k = i
        · rw [hki, hs, ← hxi]
          refine ⟨?_, ?_, ?_, ?_, ?_, ?_, fun z z1 z2 => ⟨?_, ?_⟩⟩
          · rw [a76, if_neg (by omega), if_neg (by omega), q1, if_neg (by omega), if_neg (by omega), if_neg (by omega), if_pos rfl, eN]
          · rw [a76, if_neg (by omega), if_neg (by omega), q1, if_neg (by omega), if_neg (by omega), if_pos rfl, eA]
          · rw [a76, if_neg (by omega), if_neg (by omega), q1, if_neg (by omega), if_pos rfl, eB]
          · rw [a76, if_neg (by omega), if_neg (by omega), q1, if_pos rfl, eB]
          · rw [a76, if_neg (by omega), if_pos rfl]
          · rw [a76, if_pos rfl]
          · rw [a77, q2, if_neg (by omega), if_pos (by omega), show 16 * x + z - 16 * x = z by omega]
            exact k78 z z1 z2
          · rw [a77, q2, if_pos (by omega), show 16 * x + 8 + z - (16 * x + 8) = z by omega]
            exact k79 z z1 z2
        · obtain ⟨b1, b2, b3, b4, b5, b6, b7⟩ := f3 k (by omega)
          have o76 : ∀ z : Int, z < 6 * x → m5 76 z = m1 76 z := by
            intro z hz
            rw [a76, if_neg (by omega), if_neg (by omega), q1, if_neg (by omega), if_neg (by omega), if_neg (by omega), if_neg (by omega), p0 76 (by omega), g0 76 (by omega)]
          have o77 : ∀ z : Int, z < 16 * x → m5 77 z = m1 77 z := by
            intro z hz
            rw [a77, q2, if_neg (by omega), if_neg (by omega), p0 77 (by omega), g0 77 (by omega)]
          refine ⟨by rw [o76 _ (by omega)]; exact b1, by rw [o76 _ (by omega)]; exact b2, by rw [o76 _ (by omega)]; exact b3, by rw [o76 _ (by omega)]; exact b4, by rw [o76 _ (by omega)]; exact b5, by rw [o76 _ (by omega)]; exact b6, fun z z1 z2 => ?_⟩
          rw [o77 _ (by omega), o77 _ (by omega)]
          exact b7 z z1 z2
      refine ⟨fun q => ?_, fun q => ?_⟩
      · -- the last one
        rw [q]
        have hiN : i = N := by
          apply Classical.byContradiction
          intro hne
          exact hN.2.2 i (by omega) (by rw [hs]; exact q)
        have fin : Q 0 m5 := h m5 N frame5 hN (by rw [a75, hxi, hiN]) (fun k hk => facts k (by omega))
        exact gX5_make_44 (d + 4) (-1) (x + 1) m5 Q ⟨fun _ => ⟨fun _ => fin, fun g => absurd rfl g⟩, fun _ => fin⟩
      · have hiN : i < N := by
          apply Classical.byContradiction
          intro hne
          have : i = N := by omega
          apply q
          rw [← hs, this]
          exact hN.2.1
        have b70 : m5 70 = m3 70 := by rw [aO 70 (by omega) (by omega), q0 70 (by omega) (by omega)]
        have b78 : ∀ j : Int, 0 ≤ j → j < 8 → m5 78 j = s.1 j := fun j j1 j2 => by rw [aO 78 (by omega) (by omega), q0 78 (by omega) (by omega)]; exact k78 j j1 j2
        have b79 : ∀ j : Int, 0 ≤ j → j < 8 → m5 79 j = s.2 j := fun j j1 j2 => by rw [aO 79 (by omega) (by omega), q0 79 (by omega) (by omega)]; exact k79 j j1 j2
        have hin := hsi i
        rw [hs] at hin
        have hinR : in64 (rdR O b C s) := by
          rcases rdV_ex (O := O) (b := b) (s := s) (A := (rdM O b C s).2.1) (B := (rdM O b C s).2.2) 64 0 (-1) (by omega) (by omega) with g | ⟨j0, c0, _, _, _, _, _, g⟩
          · exact absurd g q
          · show in64 (rdV O b s (rdM O b C s).2.1 (rdM O b C s).2.2 64 0 (-1))
            rw [g]; exact w64_in _
        refine jK_deep (show (d + 3) + 1 ≤ d + 4 by omega) (s_raise (A := (rdM O b C s).2.1) (B := (rdM O b C s).2.2) (by rw [b70, eA]) (by rw [b70, eB]) hinR (fun j j1 j2 => by rw [b78 j j1 j2]; exact (hin j).1) (fun j j1 j2 => by rw [b79 j j1 j2]; exact (hin j).2) (fun m6 r0 r1 r2 => ?_))
        have es : rdN O b C (rd0 O b) (i + 1) = rdX O b C s := by show rdX O b C (rdN O b C (rd0 O b) i) = _; rw [hs]
        refine ih (i + 1) (x + 1) _ m6 (by omega) (by omega) q (fun q hq => by rw [r0 q (by omega) (by omega)]; exact frame5 q hq) (by rw [r0 75 (by omega) (by omega), a75]) (fun j j1 j2 => ?_) (fun k hk => ?_) (by omega)
        · rw [es, r1 j j1 j2, r2 j j1 j2, b78 j j1 j2, b79 j j1 j2]
          exact ⟨rfl, rfl⟩
        · have := facts k (by omega)
          unfold rdFi at this ⊢
          rw [r0 76 (by omega) (by omega), r0 77 (by omega) (by omega)]
          exact this
  have L10 : ∀ (r : Nat) (c : Int) (m1 : jM), 0 ≤ c → c + r = 8 → (∀ q, q ≠ 78 → q ≠ 79 → m1 q = m q) → (∀ j : Int, 0 ≤ j → j < 8 → m1 78 j = 0) → (∀ z : Int, 0 ≤ z → z < c → m1 79 z = rdP O b z) → aX5_make_10 (d + 4) c m1 Q := by
    intro r
    induction r with
    | zero =>
      intro c m1 hc hr0 f0 f1 f2
      refine gX5_make_10 (d + 4) c m1 Q ⟨fun q => by omega, fun _ => ?_⟩
      refine L44 (N + 1) 0 0 0 _ (by omega) (by omega) (by omega) (fun q hq => by rw [up_ne (by omega)]; exact f0 q (by omega) (by omega)) up_same (fun j j1 j2 => ?_) (fun k hk => by omega) (by omega)
      rw [up_ne (by omega), up_ne (by omega)]
      exact ⟨f1 j j1 j2, f2 j j1 (by omega)⟩
    | succ r ih =>
      intro c m1 hc hr0 f0 f1 f2
      have ec : w32 (c + 1) = c + 1 := w32_id (by omega) (by omega)
      refine gX5_make_10 (d + 4) c m1 Q ⟨fun _ => jK_deep (show (d + 2) + 2 ≤ d + 4 by omega) (s_firstPay ⟨hc, by omega⟩ ⟨by omega, ?_⟩), fun q => by omega⟩
      rw [f0 57 (by omega) (by omega), f0 56 (by omega) (by omega), hO, hb, ec]
      refine ih (c + 1) _ (by omega) (by omega) (fun q g1 g2 => by rw [up_ne g2]; exact f0 q g1 g2) (fun j j1 j2 => by rw [up_ne (by omega)]; exact f1 j j1 j2) (fun z z1 z2 => ?_)
      rw [up_eq]
      by_cases hz : z = c
      · rw [if_pos hz, hz]
      · rw [if_neg hz]; exact f2 z z1 (by omega)
  refine gX5_make (d + 4) m Q (jK_deep (show (d + 3) + 1 ≤ d + 4 by omega) (s_fillL (by omega) ?_))
  refine L10 8 0 _ (by omega) (by omega) (fun q g1 g2 => by funext z; unfold jFil; rw [if_neg (by rintro ⟨g, _⟩; exact g1 g)]) (fun j j1 j2 => by unfold jFil; rw [if_pos ⟨rfl, j1, j2⟩]) (fun z z1 z2 => by omega)

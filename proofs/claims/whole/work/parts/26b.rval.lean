/-! the reference's values -/
def rG (m : jM) (r f k : Int) : Int := if f = 0 then m 108 r else if f = 1 then m 109 r else if f = 2 then m 111 (24 * r + k) else if f = 3 then m 112 (24 * r + k) else if f = 4 then m 113 (24 * r + k) else if f = 5 then m 114 (24 * r + k) else if f = 6 then m 115 (24 * r + k) else if f = 7 then m 116 (24 * r + k) else m 117 (24 * r + k)
theorem rG_eq {m m' : jM} (h : ∀ q, q ≠ 103 → m' q = m q) : rG m' = rG m := by
  funext r f k
  unfold rG
  rw [h 108 (by omega), h 109 (by omega), h 111 (by omega), h 112 (by omega), h 113 (by omega), h 114 (by omega), h 115 (by omega), h 116 (by omega), h 117 (by omega)]
theorem rG_f (m : jM) (r k : Int) : rG m r 0 k = m 108 r ∧ rG m r 1 k = m 109 r ∧ rG m r 2 k = m 111 (24 * r + k) ∧ rG m r 3 k = m 112 (24 * r + k) ∧ rG m r 4 k = m 113 (24 * r + k) ∧ rG m r 5 k = m 114 (24 * r + k) ∧ rG m r 6 k = m 115 (24 * r + k) ∧ rG m r 7 k = m 116 (24 * r + k) ∧ rG m r 8 k = m 117 (24 * r + k) := ⟨rfl, rfl, rfl, rfl, rfl, rfl, rfl, rfl, rfl⟩
def rVs (x : vR) (v : Int) (m : jM) : Prop := m 103 33 = x.2.1 ∧ (x.2.1 = 0 → v = x.1) ∧ (x.2.1 ≠ 0 → m 103 34 = x.2.2.1 ∧ m 103 35 = x.2.2.2.1 ∧ m 103 36 = x.2.2.2.2.1 ∧ m 103 37 = x.2.2.2.2.2)
def rFr (m m' : jM) : Prop := (∀ q, q ≠ 103 → m' q = m q) ∧ ∀ f, ¬ (33 ≤ f ∧ f ≤ 37) → m' 103 f = m 103 f
theorem rFr_tr {m m1 m2 : jM} (h : rFr m m1) (h' : rFr m1 m2) : rFr m m2 := ⟨fun q hq => by rw [h'.1 q hq, h.1 q hq], fun f hf => by rw [h'.2 f hf, h.2 f hf]⟩
theorem rFr_r (m : jM) : rFr m m := ⟨fun _ _ => rfl, fun _ _ => rfl⟩
/-- how long a chain is -/
theorem vJn_ch (op a b place r : Int) : 0 ≤ (vJn op a b place r).2.2.2.1 ∧ (vJn op a b place r).2.2.2.1 ≤ 1 := by
  have h1 : ∀ v, 0 ≤ (vLm v place r).2.2.2.1 ∧ (vLm v place r).2.2.2.1 ≤ 1 := by
    intro v
    unfold vLm
    split
    · show 0 ≤ (0 : Int) ∧ (0 : Int) ≤ 1; omega
    · show 0 ≤ (1 : Int) ∧ (1 : Int) ≤ 1; omega
  have h0 : ∀ v, 0 ≤ (vOk v).2.2.2.1 ∧ (vOk v).2.2.2.1 ≤ 1 := fun v => by show 0 ≤ (0 : Int) ∧ (0 : Int) ≤ 1; omega
  unfold vJn
  split
  · exact h1 _
  split
  · exact h1 _
  split
  · exact h1 _
  split
  · exact h0 _
  split
  · exact h0 _
  split
  · show 0 ≤ (1 : Int) ∧ (1 : Int) ≤ 1; omega
  split
  · exact h0 _
  · exact h0 _
theorem ev_ch (G : Int → Int → Int → Int) (t : Int → Int) (j c : Int) (n : Nat) : ∀ r k : Int, 0 ≤ (ev G t j c n r k).2.2.2.1 ∧ (ev G t j c n r k).2.2.2.1 ≤ n := by
  induction n with
  | zero => intro r k; exact ⟨Int.le_refl _, Int.le_refl _⟩
  | succ n ih =>
    intro r k
    have h0 : ∀ v, 0 ≤ (vOk v).2.2.2.1 ∧ (vOk v).2.2.2.1 ≤ ((n + 1 : Nat) : Int) := fun v => by show 0 ≤ (0 : Int) ∧ (0 : Int) ≤ ((n + 1 : Nat) : Int); omega
    have up : ∀ r k, 0 ≤ (ev G t j c n r k).2.2.2.1 ∧ (ev G t j c n r k).2.2.2.1 ≤ ((n + 1 : Nat) : Int) := fun r k => by have := ih r k; omega
    rw [ev_s]
    split
    · exact h0 _
    split
    · exact h0 _
    split
    · have hx : 0 ≤ (if G (G r 3 k) 0 0 = 0 then vOk 0 else ev G t j c n (G r 3 k) (G (G r 3 k) 1 0)).2.2.2.1 ∧ (if G (G r 3 k) 0 0 = 0 then vOk 0 else ev G t j c n (G r 3 k) (G (G r 3 k) 1 0)).2.2.2.1 ≤ (n : Int) := by
        split
        · show 0 ≤ (0 : Int) ∧ (0 : Int) ≤ (n : Int); omega
        · exact ih _ _
      generalize (if G (G r 3 k) 0 0 = 0 then vOk 0 else ev G t j c n (G r 3 k) (G (G r 3 k) 1 0)) = x at hx
      unfold vNm
      split
      · omega
      · show 0 ≤ x.2.2.2.1 + 1 ∧ x.2.2.2.1 + 1 ≤ _; omega
    split
    · exact up _ _
    split
    · exact h0 _
    split
    · exact h0 _
    split
    · exact up _ _
    split
    · split
      · exact up _ _
      · exact up _ _
    · have := vJn_ch (G r 2 k) (ev G t j c n r (G r 4 k)).1 (ev G t j c n r (G r 5 k)).1 (G r 8 k) r
      omega
theorem s_fails {d : Nat} {how r a : Int} {m : jM} {Q : Int → jM → Prop} (ha : 0 ≤ a ∧ a < 96) (hh : how ≠ 0) (h : ∀ m', rFr m m' → rVs (vFl how (m 117 a) r) 0 m' → Q 0 m') : jK (d + 1) zX11_fails [jO 11 103, jI how, jI r, jI a] m Q := by
  refine gX11_fails d how r a m Q ⟨ha, h _ ⟨fun q hq => ?_, fun f hf => ?_⟩ ⟨?_, fun _ => rfl, fun _ => ⟨?_, ?_, ?_, ?_⟩⟩⟩
  · rw [up_ne hq, up_ne hq, up_ne hq, up_ne hq, up_ne hq]
  · rw [up_oth (by omega), up_oth (by omega), up_oth (by omega), up_oth (by omega), up_oth (by omega)]
  · rw [up_oth (by omega), up_oth (by omega), up_oth (by omega), up_oth (by omega), up_same]; rfl
  · rw [up_oth (by omega), up_oth (by omega), up_oth (by omega), up_same, up_ne (by omega)]; rfl
  · rw [up_oth (by omega), up_oth (by omega), up_same]; rfl
  · rw [up_oth (by omega), up_same]; rfl
  · rw [up_same]; rfl
theorem s_limited {d : Nat} {v r a : Int} {m : jM} {Q : Int → jM → Prop} (ha : 0 ≤ a ∧ a < 96) (hk : m 103 33 = 0) (h : ∀ m' v', rFr m m' → rVs (vLm v (m 117 a) r) v' m' → Q v' m') : jK (d + 2) zX11_limited [jO 11 103, jL v, jI r, jI a] m Q := by
  refine gX11_limited (d + 1) v r a m Q (s_in ⟨fun q => ?_, fun q => ?_⟩)
  · rw [bI_0] at q
    unfold vLm at h
    rw [if_neg q] at h
    exact s_fails ha (by omega) (fun m' h1 h2 => h m' 0 h1 h2)
  · rw [bI_0, Classical.not_not] at q
    unfold vLm at h
    rw [if_pos q] at h
    exact h m v (rFr_r m) ⟨hk, fun _ => rfl, fun g => absurd rfl g⟩
theorem s_valueOf_ (d : Nat) (n : Nat) : ∀ {r k : Int} {m : jM} {Q : Int → jM → Prop}, n ≤ 1000 → wf (rG m) n r k → 0 ≤ r ∧ r < 4 → m 103 33 = 0 → tbd (m 105) → 0 ≤ m 103 38 ∧ m 103 38 < 8 → 0 ≤ m 103 39 ∧ m 103 39 < 8 →
    (∀ m' v, rFr m m' → rVs (ev (rG m) (m 105) (m 103 38) (m 103 39) n r k) v m' → Q v m') → jK (d + 3 * n + 2) zX11_valueOf_ [jO 11 103, jI r, jI k] m Q := by
  induction n with
  | zero => intro r k m Q _ h; exact h.elim
  | succ n ih =>
    intro r k m Q hn hw hr hk ht hj hc h
    obtain ⟨hk24, hw⟩ := hw
    obtain ⟨_, _, g2, g3, g4, g5, g6, g7, g8⟩ := rG_f m r k
    have ea : w32 (w32 (24 * r) + k) = 24 * r + k := by simp (disch := omega) only [w32_id]
    have ha : 0 ≤ 24 * r + k ∧ 24 * r + k < 96 := by omega
    rw [ev_s] at h
    rw [show d + 3 * (n + 1) + 2 = (d + 3 * n + 4) + 1 by omega]
    -- a part of the same rule
    have sub : ∀ (k' : Int) (m1 : jM) (K : Int → jM → Prop), wf (rG m) n r k' → rFr m m1 → m1 103 33 = 0 → (∀ m' v, rFr m m' → rVs (ev (rG m) (m 105) (m 103 38) (m 103 39) n r k') v m' → K v m') → jK (d + 3 * n + 4) zX11_valueOf_ [jO 11 103, jI r, jI k'] m1 K := by
      intro k' m1 K hw' hf h33 hK
      have e1 := rG_eq hf.1
      have e106 := hf.1 105 (by omega)
      have e38 := hf.2 38 (by omega)
      have e39 := hf.2 39 (by omega)
      refine jK_deep (show d + 3 * n + 2 ≤ d + 3 * n + 4 by omega) (ih (by omega) (by rw [e1]; exact hw') hr h33 (by rw [e106]; exact ht) (by rw [e38]; exact hj) (by rw [e39]; exact hc) (fun m' v f1 f2 => ?_))
      rw [e1, e106, e38, e39] at f2
      exact hK m' v (rFr_tr hf f1) f2
    have ok : ∀ v, rVs (vOk v) v m := fun v => ⟨hk, fun _ => rfl, fun g => absurd rfl g⟩
    refine gX11_valueOf_ (d + 3 * n + 4) r k m Q ⟨by rw [ea]; exact ha, fun q0 => ⟨by rw [ea]; exact ha, ?_⟩, fun q0 => ⟨fun q1 => ⟨by rw [ea]; exact ha, fun q3 => ⟨by rw [ea]; exact ha, ?_, ?_⟩, fun q3 => ⟨by rw [ea]; exact ha, ?_, ?_⟩⟩, fun q1 => ⟨fun q2 => ⟨by rw [ea]; exact ha, ?_⟩, fun q2 => ⟨by rw [ea]; exact ha, ?_⟩⟩⟩⟩
    · rw [ea] at q0 ⊢
      rw [g2, if_pos q0, g3] at h
      exact h m _ (rFr_r m) (ok _)
    all_goals
      rw [ea] at q0 q1
      rw [if_neg (by rw [g2]; exact q0)] at h
    · rw [ea] at q3 ⊢
      rw [← g2] at q0 q1
      rw [← g3] at q3 ⊢
      have : 0 ≤ rG m r 3 k := by omega
      rw [w32_id (z := 3 * m 103 38) (by omega) (by omega), w32_id (by omega) (by omega)]; omega
    · rw [ea] at q3 ⊢
      rw [← g3] at q3 ⊢
      have hq1 : rG m r 2 k = 1 := by rw [g2]; exact q1
      rw [w32_id (z := 3 * m 103 38) (by omega) (by omega), w32_id (by omega) (by omega)]
      rw [if_pos hq1, if_pos q3] at h
      exact h m _ (rFr_r m) (ok _)
    · rw [ea] at q3 ⊢
      rw [← g3] at q3 ⊢
      have hq1 : rG m r 2 k = 1 := by rw [g2]; exact q1
      rw [w32_id (z := 8 + m 103 39) (by omega) (by omega), w32_id (z := 3 * (8 + m 103 39)) (by omega) (by omega), w32_id (z := 3 * (8 + m 103 39) + rG m r 3 k) (by omega) (by omega), w32_id (by omega) (by omega)]; omega
    · rw [ea] at q3 ⊢
      rw [← g3] at q3 ⊢
      have hq1 : rG m r 2 k = 1 := by rw [g2]; exact q1
      rw [w32_id (z := 8 + m 103 39) (by omega) (by omega), w32_id (z := 3 * (8 + m 103 39)) (by omega) (by omega), w32_id (z := 3 * (8 + m 103 39) + rG m r 3 k) (by omega) (by omega), w32_id (by omega) (by omega)]
      rw [if_pos hq1, if_neg q3] at h
      exact h m _ (rFr_r m) (ok _)
    · -- a rule is named
      rw [ea] at q2 ⊢
      rw [← g3]
      have hq2 : rG m r 2 k = 2 := by rw [g2]; exact q2
      rw [if_neg (by omega), if_pos hq2] at h
      have hq : (0 ≤ rG m r 3 k ∧ rG m r 3 k < 4) ∧ (rG m (rG m r 3 k) 0 0 = 0 ∨ wf (rG m) n (rG m r 3 k) (rG m (rG m r 3 k) 1 0)) := by
        rcases hw with w | w | w | w | w | w
        · omega
        · omega
        · exact w.2
        · omega
        · omega
        · omega
      generalize hQ : rG m r 3 k = z at *
      -- behind the value
      have fin : ∀ (x : vR) (m1 : jM) (v : Int), rFr m m1 → rVs x v m1 → (0 ≤ x.2.2.2.1 ∧ x.2.2.2.1 ≤ n) → (∀ m' v, rFr m m' → rVs (vNm r x) v m' → Q v m') → (m1 103 33 = 0 → Q v m1) ∧ (¬ m1 103 33 = 0 → (m1 103 35 = 1 → Q v (jUp (jUp m1 103 37 r) 103 35 (w32 ((jUp m1 103 37 r) 103 35 + 1)))) ∧ (¬ m1 103 35 = 1 → Q v (jUp m1 103 35 (w32 (m1 103 35 + 1))))) := by
        intro x m1 v f1 f2 f3 f4
        obtain ⟨b1, b2, b3⟩ := f2
        unfold vNm at f4
        refine ⟨fun g => ?_, fun g => ⟨fun g2 => ?_, fun g2 => ?_⟩⟩
        · rw [b1] at g
          rw [if_pos g] at f4
          exact f4 m1 v f1 ⟨b1, b2, b3⟩
        all_goals
          rw [b1] at g
          obtain ⟨c1, c2, c3, c4⟩ := b3 g
          rw [if_neg g] at f4
        · rw [up_oth (show ¬ (35 : Int) = 37 by omega), c2, w32_id (by omega) (by omega)]
          refine f4 _ v ⟨fun q hq => by rw [up_ne hq, up_ne hq]; exact f1.1 q hq, fun f hf => by rw [up_oth (by omega), up_oth (by omega)]; exact f1.2 f hf⟩ ⟨by rw [up_oth (by omega), up_oth (by omega)]; exact b1, fun e => absurd e g, fun _ => ⟨by rw [up_oth (by omega), up_oth (by omega)]; exact c1, up_same, by rw [up_oth (by omega), up_oth (by omega)]; exact c3, ?_⟩⟩
          rw [up_oth (by omega), up_same]
          show r = if x.2.2.2.1 = 1 then r else _
          rw [if_pos (by rw [← c2]; exact g2)]
        · rw [c2, w32_id (by omega) (by omega)]
          refine f4 _ v ⟨fun q hq => by rw [up_ne hq]; exact f1.1 q hq, fun f hf => by rw [up_oth (by omega)]; exact f1.2 f hf⟩ ⟨by rw [up_oth (by omega)]; exact b1, fun e => absurd e g, fun _ => ⟨by rw [up_oth (by omega)]; exact c1, up_same, by rw [up_oth (by omega)]; exact c3, ?_⟩⟩
          rw [up_oth (by omega), c4]
          show _ = if x.2.2.2.1 = 1 then r else x.2.2.2.2.2
          rw [if_neg (by rw [← c2]; exact g2)]
      have hz0 : rG m z 0 0 = m 108 z := rfl
      have hz1 : rG m z 1 0 = m 109 z := rfl
      refine gX11_named (d + 3 * n + 3) r z m _ (gX11_valueOf (d + 3 * n + 2) z m _ ⟨hq.1, fun g => ?_, fun g => ⟨hq.1, ?_⟩⟩)
      · rw [hz0, if_pos g] at h
        exact fin (vOk 0) m 0 (rFr_r m) (ok 0) (by show 0 ≤ (0 : Int) ∧ (0 : Int) ≤ n; omega) h
      · rw [hz0, if_neg g, hz1] at h
        have hwz : wf (rG m) n z (m 109 z) := by
          rcases hq.2 with w | w
          · rw [hz0] at w; exact absurd w g
          · rw [hz1] at w; exact w
        exact ih (by omega) hwz hq.1 hk ht hj hc (fun m1 v f1 f2 => fin _ m1 v f1 f2 (ev_ch _ _ _ _ n _ _) h)
    · rw [ea] at q2 ⊢
      rw [if_neg (by rw [g2]; exact q1), if_neg (by rw [g2]; exact q2)] at h
      rw [← g4]
      have hw4 : wf (rG m) n r (rG m r 4 k) := by
        rw [← g2] at q0 q1 q2
        rcases hw with w | w | w | w | w | w
        · exact absurd w.1 q0
        · exact absurd w.1 q1
        · exact absurd w.1 q2
        · exact w.2
        · exact w.2.1
        · exact w.2.1
      have hb4 := ev_b ht hj hc n hw4
      refine sub _ m _ hw4 (rFr_r m) hk (fun m1 v1 f1 f2 => ?_)
      generalize hx : ev (rG m) (m 105) (m 103 38) (m 103 39) n r (rG m r 4 k) = x at *
      obtain ⟨b1, b2, b3⟩ := f2
      have e118 := f1.1 117 (by omega)
      unfold bnd at hb4
      refine ⟨fun p0 => ?_, fun p0 => ?_⟩
      · rw [b1] at p0
        have ev1 := b2 p0
        rw [if_neg (by omega)] at h
        rw [← g2, ev1]
        have h33 : m1 103 33 = 0 := by rw [b1, p0]
        refine ⟨fun p1 => s_limited ha h33 (fun m' v' k1 k2 => ?_), fun p1 => ⟨fun p2 => ⟨fun p3 => ?_, fun p3 => ?_⟩, fun p2 => ⟨ha, ?_⟩⟩⟩
        · rw [if_pos p1] at h
          rw [w64_id (by omega) (by omega)] at k2
          unfold vLm at k2
          rw [if_pos (by omega)] at k2
          exact h m' v' (rFr_tr f1 k1) k2
        · rw [if_neg p1, if_pos p2, if_pos p3] at h
          rw [w64_id (by omega) (by omega)]
          exact h m1 _ f1 ⟨h33, fun _ => rfl, fun g => absurd rfl g⟩
        · rw [if_neg p1, if_pos p2, if_neg p3] at h
          exact h m1 _ f1 ⟨h33, fun _ => rfl, fun g => absurd rfl g⟩
        · rw [if_neg p1, if_neg p2] at h
          have hw5 : wf (rG m) n r (rG m r 5 k) := by
            rw [← g2] at q0 q1 q2
            rcases hw with w | w | w | w | w | w
            · exact absurd w.1 q0
            · exact absurd w.1 q1
            · exact absurd w.1 q2
            · rcases w.1 with g | g
              · exact absurd g p1
              · exact absurd g p2
            · exact w.2.2
            · exact w.2.2.1
          have hb5 := ev_b ht hj hc n hw5
          rw [f1.1 114 (by omega), ← g5]
          refine sub _ m1 _ hw5 f1 h33 (fun m2 v2 f3 f4 => ?_)
          generalize hy : ev (rG m) (m 105) (m 103 38) (m 103 39) n r (rG m r 5 k) = y at *
          obtain ⟨c1, c2, c3⟩ := f4
          unfold bnd at hb5
          have g118 := f3.1 117 (by omega)
          refine ⟨fun p4 => ?_, fun p4 => ?_⟩
          · rw [c1] at p4
            have ev2 := c2 p4
            rw [if_neg (by omega)] at h
            rw [ev2]
            have h33' : m2 103 33 = 0 := by rw [c1, p4]
            refine ⟨fun p5 => ?_, fun p5 => ?_⟩
            · rw [if_pos p5] at h
              have hw67 : wf (rG m) n r (rG m r 6 k) ∧ wf (rG m) n r (rG m r 7 k) := by
                rcases hw with w | w | w | w | w | w
                · omega
                · omega
                · omega
                · omega
                · omega
                · exact ⟨w.2.2.2.1, w.2.2.2.2⟩
              refine ⟨fun p6 => ⟨ha, ?_⟩, fun p6 => ⟨ha, ?_⟩⟩
              · rw [if_pos p6] at h
                rw [f3.1 115 (by omega), ← g6]
                exact sub _ m2 _ hw67.1 f3 h33' (fun m' v k1 k2 => h m' v k1 k2)
              · rw [if_neg p6] at h
                rw [f3.1 116 (by omega), ← g7]
                exact sub _ m2 _ hw67.2 f3 h33' (fun m' v k1 k2 => h m' v k1 k2)
            · rw [if_neg p5] at h
              unfold vJn at h
              have mul : -1000000000000000000 ≤ x.1 * y.1 ∧ x.1 * y.1 ≤ 1000000000000000000 := by
                have h1 : (x.1 * y.1).natAbs ≤ 1000000000 * 1000000000 := by
                  rw [Int.natAbs_mul]
                  exact Nat.mul_le_mul (by omega) (by omega)
                omega
              have ok2 : ∀ v, rVs (vOk v) v m2 := fun v => ⟨h33', fun _ => rfl, fun g => absurd rfl g⟩
              refine ⟨fun p6 => s_limited ha h33' (fun m' v' k1 k2 => ?_), fun p6 => ⟨fun p7 => s_limited ha h33' (fun m' v' k1 k2 => ?_), fun p7 => ⟨fun p8 => s_limited ha h33' (fun m' v' k1 k2 => ?_), fun p8 => ⟨fun p9 => ⟨fun p10 => ?_, fun p10 => ?_⟩, fun p9 => ⟨fun p10 => ⟨fun p11 => ?_, fun p11 => ?_⟩, fun p10 => ⟨fun p11 => s_fails ha (by omega) (fun m' k1 k2 => ?_), fun p11 => ⟨fun p12 => s_fdv p11 ?_, fun p12 => s_fmd p11 ?_⟩⟩⟩⟩⟩⟩⟩
              · rw [if_pos p6] at h
                rw [w64_id (by omega) (by omega), g118, ← g8] at k2
                exact h m' v' (rFr_tr f3 k1) k2
              · rw [if_neg p6, if_pos p7] at h
                rw [w64_id (by omega) (by omega), g118, ← g8] at k2
                exact h m' v' (rFr_tr f3 k1) k2
              · rw [if_neg p6, if_neg p7, if_pos p8] at h
                rw [w64_id (by omega) (by omega), g118, ← g8] at k2
                exact h m' v' (rFr_tr f3 k1) k2
              all_goals rw [if_neg p6, if_neg p7, if_neg p8] at h
              · rw [if_pos p9, show min x.1 y.1 = x.1 by omega] at h
                exact h m2 _ f3 (ok2 _)
              · rw [if_pos p9, show min x.1 y.1 = y.1 by omega] at h
                exact h m2 _ f3 (ok2 _)
              all_goals rw [if_neg p9] at h
              · rw [if_pos p10, show max x.1 y.1 = y.1 by omega] at h
                exact h m2 _ f3 (ok2 _)
              · rw [if_pos p10, show max x.1 y.1 = x.1 by omega] at h
                exact h m2 _ f3 (ok2 _)
              all_goals rw [if_neg p10] at h
              · rw [if_pos p11] at h
                rw [g118, ← g8] at k2
                exact h m' 0 (rFr_tr f3 k1) k2
              · rw [if_neg p11, if_pos p12] at h
                exact h m2 _ f3 (ok2 _)
              · rw [if_neg p11, if_neg p12] at h
                exact h m2 _ f3 (ok2 _)
          · rw [c1] at p4
            rw [if_pos p4] at h
            exact h m2 0 f3 ⟨c1, fun g => absurd g p4, c3⟩
      · rw [b1] at p0
        rw [if_pos p0] at h
        exact h m1 0 f1 ⟨b1, fun g => absurd g p0, b3⟩

/-! film -/
theorem Inv_s2 {m m' : jM} (h : Inv m) (f : ∀ q, iRow q → ¬ (95 ≤ q ∧ q ≤ 102) → ¬ (157 ≤ q ∧ q ≤ 159) → m' q = m q) (h0 : ∀ j, j = 2 ∨ (12 ≤ j ∧ j ≤ 15) → m' 0 j = m 0 j) (h45 : ∀ j, j = 1 ∨ j = 2 → m' 45 j = m 45 j) (h104 : ∀ j, j = 16 ∨ j = 50 ∨ j = 68 → m' 103 j = m 103 j) (hs : iSh m') : Inv m' := by
  generalize hz : (fun q => if (95 ≤ q ∧ q ≤ 102) ∨ (157 ≤ q ∧ q ≤ 159) then m' q else m q : jM) = z
  have ez : ∀ q, z q = if (95 ≤ q ∧ q ≤ 102) ∨ (157 ≤ q ∧ q ≤ 159) then m' q else m q := fun q => by rw [← hz]
  have e1 : ∀ q, ¬ (95 ≤ q ∧ q ≤ 102) → ¬ (157 ≤ q ∧ q ≤ 159) → z q = m q := fun q a b => by rw [ez, if_neg (by omega)]
  have e2 : ∀ q, (95 ≤ q ∧ q ≤ 102) ∨ (157 ≤ q ∧ q ≤ 159) → z q = m' q := fun q a => by rw [ez, if_pos a]
  have iz : Inv z := by
    refine Inv_s h e1 (iSh_fr hs (fun q hq => ?_))
    by_cases g : (95 ≤ q ∧ q ≤ 102) ∨ (157 ≤ q ∧ q ≤ 159)
    · exact e2 q g
    · rw [e1 q (by omega) (by omega)]
      exact (f q (by unfold iRow; omega) (by omega) (by omega)).symm
  refine Inv_fr iz (fun q hq => ?_) (fun j hj => by rw [e1 0 (by omega) (by omega)]; exact h0 j hj) (fun j hj => by rw [e1 45 (by omega) (by omega)]; exact h45 j hj) (fun j hj => by rw [e1 103 (by omega) (by omega)]; exact h104 j hj)
  by_cases g : (95 ≤ q ∧ q ≤ 102) ∨ (157 ≤ q ∧ q ≤ 159)
  · exact (e2 q g).symm
  · rw [e1 q (by omega) (by omega)]
    exact f q hq (by omega) (by omega)
theorem in_uniq {C : Int → Bool} {a b : Int} (a0 : 0 ≤ a) (b0 : 0 ≤ b) (ha : C a = true) (hb : C b = true) (e : pcn C a.toNat = pcn C b.toNat) : a = b := by
  apply Classical.byContradiction
  intro hne
  by_cases hl : a < b
  · have := pcn_lt (f := C) (i := a.toNat) (j := b.toNat) (by omega) (by rw [show ((a.toNat : Nat) : Int) = a by omega]; exact ha)
    omega
  · have := pcn_lt (f := C) (i := b.toNat) (j := a.toNat) (by omega) (by rw [show ((b.toNat : Nat) : Int) = b by omega]; exact hb)
    omega
theorem st_film {m : jM} (h : Inv m) {s i : Int} (hi : in32 i) : stp zX10_film zX11_film [jI s, jI i] m := by
  unfold in32 at hi
  refine gX10_film 899 s i m _ (s_isSheetC ⟨fun g => ?_, fun g => ?_⟩)
  · refine ⟨fun _ _ => rfl, gX11_film 899 s i m _ (s_isSheetR ⟨fun _ => ⟨rfl, h, fun _ _ => rfl⟩, fun g2 => absurd g g2⟩)⟩
  have gi := g
  rw [bI_0, Classical.not_not] at g
  refine r_plan h (fun m1 h1 p1 pl1 q1 => ?_) (by omega)
  have hv : m1 59 0 = (vD m1).2 := (pl_v pl1).2
  have hp2 := vD_p h1
  have hB1 := Inv_B h1
  have n1 := cQt_n q1
  have bad : ¬ (0 ≤ i ∧ i < (vD m1).2) → (∀ q, q < 0 → m1 q = m q) ∧ jK 900 zX11_film [jO 11 103, jI s, jI i] m1 (fun v' m2 => -3 = v' ∧ Inv m2 ∧ ∀ q, q < 0 → m2 q = m q) := by
    intro hb
    refine ⟨n1, gX11_film 899 s i m1 _ (s_isSheetR ⟨fun x => absurd x gi, fun _ => q_costs h1 (by omega) (fun m2 h2 q2 al _ => q_least al hB1 (by omega) (fun m3 f3 q3 r3 e3 => ⟨fun _ => ⟨rfl, st_e h1 n1 (rQt_t q2 q3)⟩, fun _ => ⟨by omega, s_in ⟨fun _ => ⟨rfl, st_e h1 n1 (rQt_t q2 q3)⟩, fun w => ?_⟩⟩⟩))⟩)⟩
    have e3' : m3 130 0 = (vD m1).2 := e3
    rw [bI_0, Classical.not_not, e3', w32_id (by omega) (by omega)] at w
    exact absurd (show 0 ≤ i ∧ i < (vD m1).2 by omega) hb
  refine ⟨fun x => bad (by omega), fun x => ⟨by omega, fun y => ?_, fun y => bad (by omega)⟩⟩
  rw [hv] at y
  obtain ⟨T, hT⟩ := bst_get hB1 (show 0 ≤ i by omega) y
  have hT' := hT
  rw [← alk_bst pl1.2.2.1 (Nat.le_refl 8) 0] at hT'
  have hm := bst_m hT
  have hplL : plL 54 m1 8 := pl1.2.2.2.2.1
  have en := pl_n pl1
  have n8 := pcn_nn (rC (m1 104)) 8
  refine jK_deep (show 0 + 2 ≤ 899 by omega) (s_pick (p := 54) (y := 93) (T := T) (by omega) pl1.2.2.2.2 pl1.2.1 (iPl_B h1 pl1) (by omega) hT' (fun m2 f2 e2 => ⟨by omega, ?_⟩))
  rw [f2 94 (by omega), (Inv_sh h1 s g.1 (by omega)).1, f2 54 (by omega)]
  refine gX7_become 898 (95 + 2 * s) 0 (m1 54 1) m2 _ (s_fillL (by omega) ?_)
  generalize hm3 : jFil (jUp (jUp m2 (95 + 2 * s) 0 0) (95 + 2 * s) 1 (m1 54 1)) (95 + 2 * s + 1) 40 0 = m3
  have f3 : ∀ q, q ≠ 95 + 2 * s → q ≠ 95 + 2 * s + 1 → m3 q = m2 q := fun q a b => by
    rw [← hm3]; funext x; unfold jFil; rw [if_neg (by omega), up_ne a, up_ne a]
  have e30 : m3 (95 + 2 * s) 0 = 0 := by rw [← hm3]; unfold jFil; rw [if_neg (by omega), up_oth (by omega), up_same]
  have e31 : m3 (95 + 2 * s) 1 = m1 54 1 := by rw [← hm3]; unfold jFil; rw [if_neg (by omega), up_same]
  -- the class's items
  have l68 : ∀ (k : Nat) (t : Int) (mm : jM), 0 ≤ t → t + k = m1 54 1 → (∀ q, q ≠ 95 + 2 * s + 1 → mm q = m3 q) → (∀ x : Int, 0 ≤ x → x < t → mm (95 + 2 * s + 1) x = T.getD (m1 55 x).toNat (-1)) → aX10_film_68 899 (95 + 2 * s) t mm (fun v m1 => (∀ q, q < 0 → m1 q = m q) ∧ jK 900 zX11_film [jO 11 103, jI s, jI i] m1 (fun v' m2 => v = v' ∧ Inv m2 ∧ ∀ q, q < 0 → m2 q = m q)) := by
    intro k
    induction k with
    | zero =>
      intro t mm t0 tk f e
      have fr : ∀ q, q ≠ 93 → ¬ (95 ≤ q ∧ q ≤ 102) → mm q = m1 q := fun q a b => by rw [f q (by omega), f3 q (by omega) (by omega), f2 q a]
      have e54 : mm 54 = m1 54 := fr 54 (by omega) (by omega)
      refine gX10_film_68 899 (95 + 2 * s) t mm _ ⟨fun q => by rw [e54] at q; omega, fun _ => ?_⟩
      rw [e54, en]
      refine ⟨fun q hq => by rw [fr q (by omega) (by omega)]; exact n1 q hq, gX11_film 899 s i mm _ (s_isSheetR ⟨fun a => absurd a gi, fun _ => q_costs2 h1 (fun q a b => fr q (by omega) (by omega)) (by omega) (fun m5 q5 al => q_least al hB1 (by omega) (fun m6 f6 q6 r6 e6 => ⟨fun a => ?_, fun _ => ⟨by omega, s_in ⟨fun a => ?_, fun _ => ?_⟩⟩⟩))⟩)⟩
      · have := (vD_F h1).mp a; omega
      · have e6' : m6 130 0 = (vD m1).2 := e6
        rw [bI_0, e6', w32_id (by omega) (by omega)] at a; omega
      have al6 : alk (rO (m6 128)) (rB (m6 128)) (rC (m6 104)) (iO m1) (rBu m1) (rC (m1 104)) := by rw [f6 128 (by omega) (by omega), f6 104 (by omega) (by omega)]; exact al
      have hT6 := hT
      rw [← alk_bst al6 (Nat.le_refl 8) 0] at hT6
      refine jK_deep (show 0 + 2 ≤ 899 by omega) (s_picks (alk_B (alk_s al6) hB1) r6 (by omega) hT6 (fun m7 f7 e7 => ?_))
      have q7 : rQt mm m7 := rQt_t q5 (rQt_t q6 ⟨fun q a b c => f7 q (by omega), fun j _ => by rw [f7 103 (by omega)]⟩)
      have l56 : ∀ (k : Nat) (c n : Int) (m8 : jM), 0 ≤ c → c + k = 8 → n = pcn (rC (m1 104)) c.toNat → (∀ q, q ≠ 159 → m8 q = m7 q) → (∀ x : Int, 0 ≤ x → x < n → m8 159 (40 * s + x) = T.getD (m1 55 x).toNat (-1)) → (∀ y, (y < 40 * s ∨ 40 * s + 40 ≤ y) → m8 159 y = m7 159 y) → aX11_film_56 899 s n c m8 (fun v' m2 => pcn (rC (m1 104)) 8 = v' ∧ Inv m2 ∧ ∀ q, q < 0 → m2 q = m q) := by
        intro k
        induction k with
        | zero =>
          intro c n m8 c0 ck hn f8 e8 o8
          refine gX11_film_56 899 s n c m8 _ ⟨fun q => by omega, fun _ => ⟨by omega, by omega, ?_⟩⟩
          have hn' : n = pcn (rC (m1 104)) 8 := by rw [hn, show c = 8 by omega]; rfl
          generalize hm9 : jUp (jUp m8 157 s 0) 158 s n = m9
          have f9 : ∀ q, q ≠ 157 → q ≠ 158 → m9 q = m8 q := fun q a b => by rw [← hm9, up_ne b, up_ne a]
          have e158 : ∀ y, m9 157 y = if y = s then 0 else m8 157 y := fun y => by rw [← hm9, up_ne (by omega), up_eq]
          have e159 : ∀ y, m9 158 y = if y = s then n else m8 158 y := fun y => by rw [← hm9, up_eq, up_ne (by omega)]
          have all : ∀ q, q ≠ 93 → ¬ (95 ≤ q ∧ q ≤ 102) → ¬ (157 ≤ q ∧ q ≤ 159) → q ≠ 103 → ¬ (119 ≤ q ∧ q ≤ 137) → ¬ (144 ≤ q ∧ q ≤ 148 ∧ q ≠ 146) → m9 q = m1 q := fun q a b c e f' g' => by
            rw [f9 q (by omega) (by omega), f8 q (by omega), q7.1 q e f' g', fr q a b]
          refine ⟨hn'.symm, Inv_s2 h1 (fun q hq a b => ?_) (fun j _ => by rw [all 0 (by omega) (by omega) (by omega) (by omega) (by omega) (by omega)]) (fun j _ => by rw [all 45 (by omega) (by omega) (by omega) (by omega) (by omega) (by omega)]) (fun j hj => by rw [f9 103 (by omega) (by omega), f8 103 (by omega), q7.2 j hj, fr 103 (by omega) (by omega)]) (fun s' s1 s2 => ?_), fun q hq => by rw [all q (by omega) (by omega) (by omega) (by omega) (by omega) (by omega)]; exact n1 q hq⟩
          · unfold iRow at hq
            exact all q (by omega) a b (by omega) (by omega) (by omega)
          · obtain ⟨b1, b2, b3, b4, b5, b6⟩ := Inv_sh h1 s' s1 s2
            have c95 : m9 94 = m1 94 := all 94 (by omega) (by omega) (by omega) (by omega) (by omega) (by omega)
            have cc : ∀ q, 95 ≤ q → q ≤ 102 → m9 q = mm q := fun q a b => by rw [f9 q (by omega) (by omega), f8 q (by omega), q7.1 q (by omega) (by omega) (by omega)]
            have c8 : ∀ q, q = 157 ∨ q = 158 → m8 q = m1 q := fun q hq => by rw [f8 q (by omega), q7.1 q (by omega) (by omega) (by omega), fr q (by omega) (by omega)]
            rw [c95, e158, e159, cc (95 + 2 * s') (by omega) (by omega), cc (95 + 2 * s' + 1) (by omega) (by omega), f9 159 (by omega) (by omega)]
            by_cases hs : s' = s
            · rw [if_pos hs, if_pos hs, hs, f (95 + 2 * s) (by omega), e30, e31, en]
              refine ⟨by rw [← hs]; exact b1, rfl, by omega, hn', by omega, fun x x1 x2 => ?_⟩
              rw [e8 x x1 (by omega), e x x1 (by omega)]
            · rw [if_neg hs, if_neg hs, c8 157 (by omega), c8 158 (by omega), f (95 + 2 * s') (by omega), f3 (95 + 2 * s') (by omega) (by omega), f2 (95 + 2 * s') (by omega), f (95 + 2 * s' + 1) (by omega), f3 (95 + 2 * s' + 1) (by omega) (by omega), f2 (95 + 2 * s' + 1) (by omega)]
              refine ⟨b1, b2, b3, b4, b5, fun x x1 x2 => ?_⟩
              rw [o8 _ (by omega), q7.1 159 (by omega) (by omega) (by omega), fr 159 (by omega) (by omega)]
              exact b6 x x1 x2
        | succ k ih =>
          intro c n m8 c0 ck hn f8 e8 o8
          have nb := pcn_nn (rC (m1 104)) c.toNat
          have e132 : m8 131 c = T.getD c.toNat (-1) := by rw [f8 131 (by omega)]; exact e7 c c0 (by omega)
          have hw : w32 (w32 (40 * s) + n) = 40 * s + n := by rw [w32_id (z := 40 * s) (by omega) (by omega), w32_id (by omega) (by omega)]
          refine gX11_film_56 899 s n c m8 _ ⟨fun q => ⟨by omega, fun a => ?_, fun a => ⟨by omega, ?_⟩⟩, fun q => by omega⟩
          · rw [w32_id (by omega) (by omega)]
            have hC : ¬ rC (m1 104) c = true := by
              rcases m8_at hm c0 (show c < 8 by omega) with w | w
              · rw [w.1]; decide
              · rw [e132] at a; omega
            exact ih (c + 1) n m8 (by omega) (by omega) (by rw [pcn_s _ _ c0, if_neg hC, Int.add_zero]; exact hn) f8 e8 o8
          · rw [hw, w32_id (z := c + 1) (by omega) (by omega), w32_id (z := n + 1) (by omega) (by omega), e132]
            have hC : rC (m1 104) c = true := by
              rcases m8_at hm c0 (show c < 8 by omega) with w | w
              · rw [e132] at a; exact absurd w.2 a
              · exact w.1
            have nlt : n < m1 54 1 := by
              have := pcn_lt (f := rC (m1 104)) (i := c.toNat) (j := 8) (by omega) (by rw [show ((c.toNat : Nat) : Int) = c by omega]; exact hC)
              rw [en]
              omega
            obtain ⟨v1, v2, v3, v4⟩ := nxt_in hplL (show 0 ≤ n by omega) nlt
            have hc55 : m1 55 n = c := in_uniq (C := rC (m1 104)) v2.1 c0 (by rw [← pl_C h1 pl1 v2.1 v2.2]; exact v3) hC (by rw [← pl_t pl1 (show m1 55 n ≤ 8 by omega), v4, hn])
            refine ⟨by omega, ih (c + 1) (n + 1) _ (by omega) (by omega) (by rw [pcn_s _ _ c0, if_pos hC, ← hn]) (fun q hq => by rw [up_ne hq]; exact f8 q hq) (fun x x1 x2 => ?_) (fun y hy => by rw [up_oth (by omega)]; exact o8 y hy)⟩
            rw [up_eq]
            by_cases hx : x = n
            · rw [if_pos (by omega), hx, hc55]
            · rw [if_neg (by omega)]; exact e8 x x1 (by omega)
      exact l56 8 0 0 m7 (by omega) (by omega) rfl (fun _ _ => rfl) (fun x x1 x2 => by omega) (fun _ _ => rfl)
    | succ k ih =>
      intro t mm t0 tk f e
      have e54 : mm 54 = m1 54 := by rw [f 54 (by omega), f3 54 (by omega) (by omega), f2 54 (by omega)]
      have e55 : mm 55 = m1 55 := by rw [f 55 (by omega), f3 55 (by omega) (by omega), f2 55 (by omega)]
      have e94 : mm 93 = m2 93 := by rw [f 93 (by omega), f3 93 (by omega) (by omega)]
      obtain ⟨v1, v2, v3, v4⟩ := nxt_in hplL t0 (show t < m1 54 1 by omega)
      refine gX10_film_68 899 (95 + 2 * s) t mm _ ⟨fun q => ?_, fun q => by rw [e54] at q; omega⟩
      rw [e55, e94, e2 _ v2.1 v2.2]
      have e0 : mm (95 + 2 * s) 0 = 0 := by rw [f (95 + 2 * s) (by omega)]; exact e30
      refine ⟨by omega, v2, gX7_set 898 (95 + 2 * s) t _ mm _ ⟨fun a => by omega, fun _ => ⟨fun a => by omega, fun _ => ⟨by omega, ?_⟩⟩⟩⟩
      rw [w32_id (by omega) (by omega)]
      refine ih (t + 1) _ (by omega) (by omega) (fun q hq => by rw [up_ne hq]; exact f q hq) (fun x x1 x2 => ?_)
      rw [up_eq]
      by_cases hx : x = t
      · rw [if_pos hx, hx]
      · rw [if_neg hx]; exact e x x1 (by omega)
  exact l68 (m1 54 1).toNat 0 m3 (by omega) (by omega) (fun _ _ => rfl) (fun x x1 x2 => by omega)
/-! empty -/
theorem cnr_c {P P' : Int → Bool} {a b : Int} (h : ∀ i, a ≤ i → i < b → P i = P' i) : cnr P a b = cnr P' a b := by
  have : ∀ (n : Nat) (a : Int), (∀ i, a ≤ i → i < a + n → P i = P' i) → cnt P n a = cnt P' n a := by
    intro n
    induction n with
    | zero => intro a _; rfl
    | succ n ih =>
      intro a h
      show (if P a = true then 1 else 0) + cnt P n (a + 1) = (if P' a = true then 1 else 0) + cnt P' n (a + 1)
      rw [h a (by omega) (by omega), ih (a + 1) (fun i i1 i2 => h i (by omega) (by omega))]
  unfold cnr
  by_cases hab : a ≤ b
  · exact this _ a (fun i i1 i2 => h i i1 (by omega))
  · rw [show (b - a).toNat = 0 by omega]
    rfl
def rng (f k : Int) : Prop := (k = 0 ∧ (f = 0 ∨ f = 1)) ∨ ((2 ≤ f ∧ f ≤ 8) ∧ 0 ≤ k ∧ k < 24)
theorem ru1_G {G G' : Int → Int → Int → Int} {nm nm' : Int → Int} {m : jM} {p r : Int} (hG : ∀ f k, rng f k → G' r f k = G r f k) (hn : ∀ q : Int, 0 ≤ q → q < 4 → nm' (4 * r + q) = nm (4 * r + q)) (h : ru1 G nm m p r) : ru1 G' nm' m p r := by
  obtain ⟨a, b, c, d, e⟩ := h
  have g0 := hG 0 0 (Or.inl ⟨rfl, Or.inl rfl⟩)
  have g1 := hG 1 0 (Or.inl ⟨rfl, Or.inr rfl⟩)
  have gf : ∀ f k : Int, 2 ≤ f → f ≤ 8 → 0 ≤ k → k < G r 0 0 → G' r f k = G r f k := fun f k f1 f2 k1 k2 => hG f k (Or.inr ⟨⟨f1, f2⟩, k1, by omega⟩)
  unfold ru1 ruT ruN
  rw [g0, g1]
  refine ⟨a, b, ?_, ⟨d.1, d.2.1, fun q q1 q2 => by rw [hn q q1 q2]; exact d.2.2 q q1 q2⟩, fun q q1 q2 => ?_⟩
  · rcases c with c | ⟨c0, c1, c2, c3⟩
    · exact Or.inl c
    · refine Or.inr ⟨c0, cX_c (fun f k f1 f2 k1 k2 => gf f k f1 f2 k1 k2) (fun _ _ _ => ⟨rfl, rfl, rfl⟩) c1, uX_c (fun f k f1 f2 k1 k2 => gf f k f1 f2 k1 k2) c2, fun j j1 j2 => ?_⟩
      have := c3 j j1 j2
      unfold lfOk at this ⊢
      dsimp only at this ⊢
      rw [gf 2 j (by omega) (by omega) j1 j2, gf 3 j (by omega) (by omega) j1 j2]
      exact this
  · rw [hn q q1 q2, e q q1 q2]
    refine cnr_c (fun k k1 k2 => ?_)
    rw [gf 2 k (by omega) (by omega) k1 k2, gf 3 k (by omega) (by omega) k1 k2]
theorem Inv_ru {m m' : jM} (h : Inv m) (f : ∀ q, q ≠ 0 → ¬ (5 ≤ q ∧ q ≤ 22) → ¬ (45 ≤ q ∧ q ≤ 50) → ¬ (108 ≤ q ∧ q ≤ 126) → q ≠ 103 → m' q = m q) (f0 : m' 0 2 = m 0 2) (hz : ∀ j, 12 ≤ j → j ≤ 15 → m' 0 j = 0) (h104 : ∀ j, j = 50 ∨ j = 68 → m' 103 j = m 103 j) (hru : iRu m') (hpr : iPr m') (hta : iTa m') : Inv m' := by
  obtain ⟨a1, a2, a3, a4, a5, a6, a7, a8, a9, a10, a11⟩ := h
  have g : ∀ q, (1 ≤ q ∧ q ≤ 4) ∨ (23 ≤ q ∧ q ≤ 44) ∨ (51 ≤ q ∧ q ≤ 102) ∨ (104 ≤ q ∧ q ≤ 107) ∨ 127 ≤ q → m' q = m q := fun q hq => f q (by omega) (by omega) (by omega) (by omega) (by omega)
  exact ⟨by rw [g 1 (by omega), g 104 (by omega)]; exact a1, by rw [g 2 (by omega), g 105 (by omega)]; exact a2, by rw [g 3 (by omega), g 106 (by omega)]; exact a3, by rw [g 4 (by omega), g 107 (by omega)]; exact a4, hru, hpr, hta,
    iRo_fr a8 (h104 50 (by omega)) (fun q h => g q (by omega)), iIm_fr a9 f0 (h104 68 (by omega)) (fun q h => g q (by omega)), iSh_fr a10 (fun q h => g q (by omega)), iCa_0 hz⟩
theorem st_empty {m : jM} (h : Inv m) (r : Int) : stp zX10_empty zX11_empty [jI r] m := by
  refine gX10_empty 899 r m _ (s_isRule ⟨fun g => ?_, fun g => ?_⟩)
  · refine ⟨fun _ _ => rfl, gX11_empty 899 r m _ (s_in ⟨fun _ => ⟨rfl, h, fun _ _ => rfl⟩, fun g2 => absurd g g2⟩)⟩
  have gi := g
  rw [bI_0, Classical.not_not] at g
  obtain ⟨rk, hk, hr⟩ := h.2.2.2.2.1
  have hpr := h.2.2.2.2.2.1
  have hp := hpr.1 r g.1 (by omega)
  generalize hP : m 5 r = p at *
  unfold rcl at hp
  have hcell : ∀ q : Int, 0 ≤ q → q < 4 → q ≠ r → m 5 q ≠ p ∧ rcl (m 5 q) := fun q q1 q2 hne => ⟨by rw [← hP]; exact hpr.2.2.2 q r q1 q2 g.1 (by omega) hne, hpr.1 q q1 q2⟩
  refine ⟨by omega, by omega, gX6_clear 898 p m _ (s_changed (fun m1 f1 e1 z1 => ?_))⟩
  have f2 : ∀ q, q ≠ 0 → q ≠ p → m1 q = m q := fun q a b => by rw [f1 q a, up_ne b, up_ne b]
  have ep0 : m1 p 0 = 0 := by rw [f1 p (by omega), up_oth (by omega), up_same]
  have ep1 : m1 p 1 = 0 := by rw [f1 p (by omega), up_same]
  refine ⟨fun q hq => f2 q (by omega) (by omega), gX11_empty 899 r m1 _ (s_in ⟨fun x => absurd x gi, fun _ => ⟨by omega, by omega, ?_⟩⟩)⟩
  have e109 : m1 108 = m 108 := f2 108 (by omega) (by omega)
  have ev : m p 0 = m 108 r := by
    have := (hr r g.1 (by omega)).1
    rw [hP] at this
    exact this
  rw [e109, ← ev]
  have loop : ∀ (k : Nat) (i : Int) (mm : jM), 0 ≤ i → i + k = 4 → (∀ q, q ≠ 108 → q ≠ 110 → mm q = m1 q) → (∀ y, mm 108 y = if y = r then 0 else m 108 y) → (∀ y, mm 110 y = if 4 * r ≤ y ∧ y < 4 * r + i then 0 else m 110 y) → aX11_empty_31 899 r (m p 0) i mm (fun v' m2 => m p 0 = v' ∧ Inv m2 ∧ ∀ q, q < 0 → m2 q = m q) := by
    intro k
    induction k with
    | zero =>
      intro i mm i0 ik f a109 a111
      refine gX11_empty_31 899 r (m p 0) i mm _ ⟨fun q => by omega, fun _ => ⟨rfl, ?_, fun q hq => by rw [f q (by omega) (by omega)]; exact f2 q (by omega) (by omega)⟩⟩
      have fr : ∀ q, q ≠ 0 → q ≠ p → q ≠ 108 → q ≠ 110 → mm q = m q := fun q a b c d => by rw [f q c d]; exact f2 q a b
      have e5 : mm 5 = m 5 := fr 5 (by omega) (by omega) (by omega) (by omega)
      refine Inv_ru h (fun q a b c d e => fr q a (by omega) (by omega) (by omega)) (by rw [f 0 (by omega) (by omega), e1 2 (by omega), up_ne (by omega), up_ne (by omega)]) (fun j j1 j2 => by rw [f 0 (by omega) (by omega)]; exact z1 j j1 j2) (fun j _ => by rw [fr 103 (by omega) (by omega) (by omega) (by omega)]) ?_ (iPr_fr hpr e5 (by rw [fr 45 (by omega) (by omega) (by omega) (by omega)])) (iTa_fr h.2.2.2.2.2.2.1 (by rw [fr 45 (by omega) (by omega) (by omega) (by omega)]) (by rw [fr 103 (by omega) (by omega) (by omega) (by omega)]) (fr 46 (by omega) (by omega) (by omega) (by omega)) (fr 118 (by omega) (by omega) (by omega) (by omega)))
      refine ⟨rk, ⟨hk.1, fun a b a1 a2 b1 b2 hb => ?_⟩, fun q q1 q2 => ?_⟩
      · rw [a111] at hb
        by_cases ha : 4 * r ≤ 4 * a + b ∧ 4 * a + b < 4 * r + i
        · rw [if_pos ha] at hb; omega
        · rw [if_neg ha] at hb; exact hk.2 a b a1 a2 b1 b2 hb
      · rw [e5]
        by_cases hq : q = r
        · rw [hq, hP]
          have z0 : rG mm r 0 0 = 0 := by show mm 108 r = 0; rw [a109, if_pos rfl]
          have zp : mm p 0 = 0 := by rw [f p (by omega) (by omega)]; exact ep0
          have zp1 : mm p 1 = 0 := by rw [f p (by omega) (by omega)]; exact ep1
          have zn : ∀ x : Int, 0 ≤ x → x < 4 → mm 110 (4 * r + x) = 0 := fun x x1 x2 => by rw [a111, if_pos (by omega)]
          refine ⟨by rw [zp, z0], by omega, Or.inl ⟨z0, zp1⟩, ⟨by omega, fun x x1 x2 => by omega, fun x x1 x2 => ?_⟩, fun x x1 x2 => ?_⟩
          · rw [zn x x1 x2, zp1, cnr_0 (by omega)]
          · rw [zn x x1 x2, z0, cnr_0 (by omega)]
        · obtain ⟨c1, c2⟩ := hcell q q1 q2 hq
          unfold rcl at c2
          have old := hr q q1 q2
          refine ru1_G (G := rG m) (nm := m 110) (fun f' k hf => ?_) (fun x x1 x2 => by rw [a111, if_neg (by omega)]) (ru1_fr (fr _ (by omega) (by omega) (by omega) (by omega)) (fr _ (by omega) (by omega) (by omega) (by omega)) (fr _ (by omega) (by omega) (by omega) (by omega)) (fr _ (by omega) (by omega) (by omega) (by omega)) old)
          unfold rG
          rw [a109, if_neg hq, fr 109 (by omega) (by omega) (by omega) (by omega), fr 111 (by omega) (by omega) (by omega) (by omega), fr 112 (by omega) (by omega) (by omega) (by omega), fr 113 (by omega) (by omega) (by omega) (by omega), fr 114 (by omega) (by omega) (by omega) (by omega), fr 115 (by omega) (by omega) (by omega) (by omega), fr 116 (by omega) (by omega) (by omega) (by omega), fr 117 (by omega) (by omega) (by omega) (by omega)]
    | succ k ih =>
      intro i mm i0 ik f a109 a111
      have hw : w32 (w32 (4 * r) + i) = 4 * r + i := by rw [w32_id (z := 4 * r) (by omega) (by omega), w32_id (by omega) (by omega)]
      refine gX11_empty_31 899 r (m p 0) i mm _ ⟨fun q => ?_, fun q => by omega⟩
      rw [hw, w32_id (z := i + 1) (by omega) (by omega)]
      refine ⟨by omega, ih (i + 1) _ (by omega) (by omega) (fun q a b => by rw [up_ne b]; exact f q a b) (fun y => by rw [up_ne (by omega)]; exact a109 y) (fun y => ?_)⟩
      rw [up_eq, a111]
      by_cases hy : y = 4 * r + i
      · rw [if_pos hy, if_pos (by omega)]
      · rw [if_neg hy]
        by_cases hy2 : 4 * r ≤ y ∧ y < 4 * r + i
        · rw [if_pos hy2, if_pos (by omega)]
        · rw [if_neg hy2, if_neg (by omega)]
  exact loop 4 0 _ (by omega) (by omega) (fun q a _ => up_ne a) (fun y => by rw [up_eq, e109]) (fun y => by rw [up_ne (by omega), if_neg (by omega), f2 110 (by omega) (by omega)])

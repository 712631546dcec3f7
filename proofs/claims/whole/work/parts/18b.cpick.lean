/-! the class's plan: leads, pick -/
theorem bt_lead {r s j : Int} (hj : 0 ≤ j ∧ j < 8) (hr : mk8 r) : iAnd (iAnd r (iXor s (-1))) (iShl 1 j) = 0 ↔ ¬ (bt r j = true ∧ bt s j = false) := by
  constructor
  · intro e ⟨g1, g2⟩
    have := congrArg (fun z => bt z j) e
    simp only [bt_and, bt_xor, bt_0, bt_ones (show 0 ≤ j ∧ j < 32 by omega), bt_one (show 0 ≤ j ∧ j < 32 by omega) (show 0 ≤ j ∧ j < 32 by omega), g1, g2] at this
    simp at this
  · intro h
    refine mk_ext (mk_andl (mk_andl hr)) mk_0 (fun i h1 h2 => ?_)
    rw [bt_and, bt_and, bt_xor, bt_0, bt_ones (by omega), bt_one (by omega) (by omega)]
    by_cases hi : i = j
    · subst hi
      revert h; cases bt r i <;> cases bt s i <;> simp
    · simp [hi]
theorem plL_open {p : Int} {m : jM} (hp : plL p m 8) {t j : Int} (h0 : 0 ≤ t) (ht : t < m p 1) (hj : 0 ≤ j ∧ j < 8) (hb : bt (m (p + 3) (m (p + 1) t)) j = true) : bt (m p 3) j = true := by
  obtain ⟨b1, b2, b3, b4⟩ := hp.2.2.1 t h0 ht
  exact (hp.2.2.2 j hj.1 hj.2).mpr ⟨_, b1, b2, b3, hb⟩
theorem toN_inj {k k' : Nat} {x y : Int × Int} (hx : dpR k x) (hy : dpR k' y) : toN x.1 = toN y.1 ↔ x.1 = y.1 := by
  constructor
  · intro h
    by_cases g1 : x.1 = dpF
    · by_cases g2 : y.1 = dpF
      · rw [g1, g2]
      · rw [toN_n g2] at h
        rw [toN_no hx |>.mpr g1] at h
        have := hy.1
        rcases this with a | a
        · omega
        · exact absurd a g2
    · rw [toN_n g1] at h
      by_cases g2 : y.1 = dpF
      · rw [toN_no hy |>.mpr g2] at h
        have := hx.1
        rcases this with a | a
        · omega
        · exact absurd a g1
      · rwa [toN_n g2] at h
  · intro h; rw [h]
theorem s_leads {d : Nat} {p s j c : Int} {m : jM} {Q : Int → jM → Prop} (hW : pW 0 p m) (hr : ∀ c : Int, 0 ≤ c → c < 8 → mk8 (m (p + 3) c)) (hB : dpB (pO (m (p + 3))) (rB (m (p + 2)))) (hs : mk8 s) (hsub : sub8 s (m p 3)) (ht : pc8 s < m p 1) (hc : m (p + 1) (pc8 s) = c) (hj : 0 ≤ j ∧ j < 8)
    (h : Q (bI (ldg (pO (m (p + 3))) (rB (m (p + 2))) (bt (m p 0)) (7 - c).toNat s j = true)) m) : jK (d + 1) zX4_leads [jO 4 p, jI s, jI j, jI c] m Q := by
  obtain ⟨hL, hE⟩ := hW
  have hpr := pc8_r s
  obtain ⟨b1, b2, b3, b4⟩ := hL.2.2.1 (pc8 s) hpr.1 ht
  rw [hc] at b1 b2 b3 b4
  have hor := mk_or1 hs hj
  have hor2 : 0 ≤ iOr s (iShl 1 j) ∧ iOr s (iShl 1 j) < 256 := hor
  have hs2 : 0 ≤ s ∧ s < 256 := hs
  have e1 : w32 (w32 (j * 8) + c) = 8 * j + c := by simp (disch := omega) only [w32_id]; omega
  have e7 : 7 - (((7 - c).toNat : Nat) : Int) = c := by omega
  have eLv : pLv p m (pc8 s) = (7 - c).toNat + 1 := by unfold pLv; rw [if_pos ht, hc]; omega
  have hEs := hE s hs hsub
  unfold pEn at hEs
  rw [eLv] at hEs
  have hld : ldg (pO (m (p + 3))) (rB (m (p + 2))) (bt (m p 0)) (7 - c).toNat s j = true ↔ (bt s j = false ∧ bt (m (p + 3) c) j = true) ∧ (dpt 0 (pO (m (p + 3))) (rB (m (p + 2))) (bt (m p 0)) (7 - c).toNat (iOr s (iShl 1 j))).1 ≠ dpF ∧ m (p + 2) (8 * j + c) + (dpt 0 (pO (m (p + 3))) (rB (m (p + 2))) (bt (m p 0)) (7 - c).toNat (iOr s (iShl 1 j))).1 = (dpt 0 (pO (m (p + 3))) (rB (m (p + 2))) (bt (m p 0)) ((7 - c).toNat + 1) s).1 := by
    unfold ldg
    rw [e7]
    simp only [Bool.and_eq_true, Bool.not_eq_true', decide_eq_true_eq, and_assoc]
    exact Iff.rfl
  refine gX4_leads d p s j c m Q ⟨by omega, fun q => ?_, fun q => ⟨hor, fun q2 => ?_, fun q2 => ⟨by omega, hor, hs, ?_, ?_⟩⟩⟩
  · rw [bt_lead hj (hr c (by omega) (by omega))] at q
    rw [bI_f (by rw [hld]; rintro ⟨⟨g1, g2⟩, _⟩; exact q ⟨g2, g1⟩)] at h
    exact h
  all_goals
    rw [bt_lead hj (hr c (by omega) (by omega)), Classical.not_not] at q
    have hopen := plL_open hL hpr.1 ht hj (by rw [hc]; exact q.1)
    have hEt := hE _ hor (sub_or1 hj hsub hopen)
    unfold pEn at hEt
    rw [pc8_1 hj q.2, ← pLv_next hL hpr.1 ht, hc] at hEt
    have hRt := dpt_r (h := 0) (C := bt (m p 0)) hB (7 - c).toNat (by omega) _ hor
    have hRs := dpt_r (h := 0) (C := bt (m p 0)) hB ((7 - c).toNat + 1) (by omega) _ hs
  · rw [hEt.1, toN_no hRt] at q2
    rw [bI_f (by rw [hld]; rintro ⟨_, g, _⟩; exact g q2)] at h
    exact h
  all_goals
    rw [hEt.1, toN_no hRt] at q2
    rw [e1, hEt.1, hEs.1, toN_n q2]
    have hbr : 0 ≤ m (p + 2) (8 * j + c) ∧ m (p + 2) (8 * j + c) ≤ 1000000000 := hB j c hj.1 hj.2 (by omega) (by omega) q.1
    have hx : 0 ≤ (dpt 0 (pO (m (p + 3))) (rB (m (p + 2))) (bt (m p 0)) (7 - c).toNat (iOr s (iShl 1 j))).1 ∧ (dpt 0 (pO (m (p + 3))) (rB (m (p + 2))) (bt (m p 0)) (7 - c).toNat (iOr s (iShl 1 j))).1 ≤ 1000000000 * (7 - c).toNat := by rcases hRt.1 with g | g; exact g; exact absurd g q2
    rw [w64_id (by omega) (by omega)]
    intro q3
    have hF : dpF = 1125899906842624 := rfl
    have hne : (dpt 0 (pO (m (p + 3))) (rB (m (p + 2))) (bt (m p 0)) ((7 - c).toNat + 1) s).1 = dpF → toN (dpt 0 (pO (m (p + 3))) (rB (m (p + 2))) (bt (m p 0)) ((7 - c).toNat + 1) s).1 = -4611686018427387904 := (toN_no hRs).mpr
  · rw [bI_t] at h
    · exact h
    · rw [hld]
      refine ⟨⟨q.2, q.1⟩, q2, ?_⟩
      rw [q3, toN_n]
      intro g
      have := hne g
      omega
  · rw [bI_f] at h
    · exact h
    · rw [hld]
      rintro ⟨_, _, g⟩
      apply q3
      rw [g, toN_n]
      intro g2
      omega
/-- levels where all cases are OUT -/
theorem bst_skip {o : Int → Int → Bool} {b : Int → Int → Int} {C : Int → Bool} {s : Int} {i : Nat} (k e : Nat) : ∀ {L : List Int}, (∀ c : Int, 8 - ((k : Int) + e) ≤ c → c < 8 - k → C c = false) → (bst o b C (k + e) s)[i]? = some L → (bst o b C k s)[i]? = some (L.drop e) ∧ ∀ x : Nat, x < e → L.getD x (-1) = -1 := by
  induction e with
  | zero => intro L _ h; exact ⟨h, fun x hx => absurd hx (Nat.not_lt_zero _)⟩
  | succ e ih =>
    intro L hC h
    rw [show k + (e + 1) = (k + e) + 1 by omega, bst_out (by rw [hC _ (by omega) (by omega)]; simp), List.getElem?_map] at h
    cases hx : (bst o b C (k + e) s)[i]? with
    | none => rw [hx] at h; cases h
    | some l =>
      rw [hx] at h
      have hl : (-1) :: l = L := Option.some.inj h
      subst hl
      obtain ⟨h1, h2⟩ := ih (fun c g1 g2 => hC c (by omega) g2) hx
      refine ⟨h1, fun x hx => ?_⟩
      cases x with
      | zero => rfl
      | succ x => exact h2 x (by omega)
theorem s_pick {d : Nat} {p y i : Int} {T : List Int} {m : jM} {Q : Int → jM → Prop} (hy : y < p ∨ p + 7 < y) (hW : pW 0 p m) (hr : ∀ c : Int, 0 ≤ c → c < 8 → mk8 (m (p + 3) c)) (hB : dpB (pO (m (p + 3))) (rB (m (p + 2)))) (h0 : 0 ≤ i ∧ i ≤ 2147483647)
    (hT : (bst (pO (m (p + 3))) (rB (m (p + 2))) (bt (m p 0)) 8 0)[i.toNat]? = some T)
    (h : ∀ m', (∀ q, q ≠ y → m' q = m q) → (∀ c : Int, 0 ≤ c → c < 8 → m' y c = T.getD c.toNat (-1)) → Q 0 m') : jK (d + 2) zX4_pick [jO 4 p, jI i, jY 0 8 y] m Q := by
  refine gX4_pick (d + 1) p i 8 y m Q (s_fillI (by omega) ?_)
  have hfr : ∀ q, q ≠ y → jFil m y 8 (-1) q = m q := by
    intro q hq; funext j; unfold jFil; rw [if_neg (by rintro ⟨g, _⟩; exact hq g)]
  have hfy : ∀ c : Int, 0 ≤ c → c < 8 → jFil m y 8 (-1) y c = -1 := by
    intro c g1 g2; unfold jFil; rw [if_pos ⟨rfl, g1, g2⟩]
  generalize jFil m y 8 (-1) = m0 at *
  have hm1 : 0 ≤ m p 1 ∧ m p 1 ≤ 8 := by
    rw [hW.1.1]; exact pcn_nn _ _
  -- the rows stay while y is written
  have keep : ∀ m1 : jM, (∀ q, q ≠ y → m1 q = m q) → pW 0 p m1 ∧ m1 p = m p ∧ m1 (p + 1) = m (p + 1) ∧ m1 (p + 2) = m (p + 2) ∧ m1 (p + 3) = m (p + 3) ∧ m1 (p + 4) = m (p + 4) ∧ m1 (p + 5) = m (p + 5) := by
    intro m1 hf
    have a0 := hf p (by omega)
    have a1 := hf (p + 1) (by omega)
    have a2 := hf (p + 2) (by omega)
    have a3 := hf (p + 3) (by omega)
    have a4 := hf (p + 4) (by omega)
    have a5 := hf (p + 5) (by omega)
    refine ⟨?_, a0, a1, a2, a3, a4, a5⟩
    unfold pW plL pEn pLv at hW ⊢
    rw [a0, a1, a2, a3, a4, a5]
    exact hW
  have L13 : ∀ (n : Nat) (used left t : Int) (m1 : jM), t + n = m p 1 → 0 ≤ t → mk8 used → sub8 used (m p 3) → pc8 used = t → (0 ≤ left ∧ left ≤ 2147483647) → (∀ q, q ≠ y → m1 q = m q) →
      (∀ c' : Int, 0 ≤ c' → c' < 8 - (pLv p m t : Nat) → m1 y c' = T.getD c'.toNat (-1)) → (∀ c' : Int, 8 - ((pLv p m t : Nat) : Int) ≤ c' → 0 ≤ c' → c' < 8 → m1 y c' = -1) → pLv p m t ≤ 8 →
      (bst (pO (m (p + 3))) (rB (m (p + 2))) (bt (m p 0)) (pLv p m t) used)[left.toNat]? = some (T.drop (8 - pLv p m t)) → aX4_pick_13 (d + 1) p 8 y used left t m1 Q := by
    intro n
    induction n with
    | zero =>
      intro used left t m1 htn ht0 hu hus hpc hl hf hlow hhigh hlv hi
      obtain ⟨kW, k0, k1, k2, k3, k4, k5⟩ := keep m1 hf
      refine gX4_pick_13 (d + 1) p 8 y used left t m1 Q ⟨fun q => by rw [k0] at q; omega, fun _ => ?_⟩
      have e0 : pLv p m t = 0 := by unfold pLv; rw [if_neg (by omega)]
      rw [e0] at hlow
      exact h m1 hf (fun c g1 g2 => hlow c g1 (by omega))
    | succ n ih =>
      intro used left t m1 htn ht0 hu hus hpc hl hf hlow hhigh hlv hi
      obtain ⟨kW, k0, k1, k2, k3, k4, k5⟩ := keep m1 hf
      have htc : t < m p 1 := by omega
      obtain ⟨b1, b2, b3, b4⟩ := hW.1.2.2.1 t ht0 htc
      generalize hc : m (p + 1) t = c at *
      have eLv : pLv p m t = (7 - c).toNat + 1 := by unfold pLv; rw [if_pos htc, hc]; omega
      rw [eLv] at hlow hhigh hi hlv
      have e7 : 7 - (((7 - c).toNat : Nat) : Int) = c := by omega
      have e8 : 8 - ((7 - c).toNat + 1) = c.toNat := by omega
      rw [e8] at hi
      have et : w32 (t + 1) = t + 1 := w32_id (by omega) (by omega)
      rw [bst_in hB (by omega) hu (by rw [e7]; exact b3), fmr_8] at hi
      -- found judge j
      have fin : ∀ (j left' : Int) (m2 : jM) (l : List Int), (0 ≤ j ∧ j < 8) → bt used j = false → bt (m (p + 3) c) j = true → (0 ≤ left' ∧ left' ≤ 2147483647) → (∀ q, q ≠ y → m2 q = m q) → (∀ c' : Int, 0 ≤ c' → c' < c → m2 y c' = T.getD c'.toNat (-1)) → (∀ c' : Int, c < c' → c' < 8 → m2 y c' = -1) → m2 y c = j → T.drop c.toNat = j :: l →
          (bst (pO (m (p + 3))) (rB (m (p + 2))) (bt (m p 0)) (7 - c).toNat (iOr used (iShl 1 j)))[left'.toNat]? = some l → aX4_pick_13 (d + 1) p 8 y (iOr used (iShl 1 j)) left' (w32 (t + 1)) m2 Q := by
        intro j left' m2 l hj hun hop hl' g1 g2 g3 g4 g5 g6
        obtain ⟨d1, d2⟩ := drop_cons g5 (-1)
        obtain ⟨e, e1, e2⟩ := pLv_sk hW.1 ht0 htc
        rw [hc] at e1
        rw [e1] at g6
        obtain ⟨u1, u2⟩ := bst_skip _ _ e2 g6
        rw [et]
        have hopen := plL_open hW.1 ht0 htc hj (by rw [hc]; exact hop)
        refine ih _ left' (t + 1) m2 (by omega) (by omega) (mk_or1 hu hj) (sub_or1 hj hus hopen) (by rw [pc8_1 hj hun, hpc]) hl' g1 (fun c' k1 k2 => ?_) (fun c' k1 k2 k3 => g3 c' (by omega) k3) (by omega) ?_
        · by_cases hcc : c' < c
          · exact g2 c' k1 hcc
          · by_cases hce : c' = c
            · rw [hce, g4, d1]
            · rw [g3 c' (by omega) (by omega)]
              have h9 := u2 (c' - c - 1).toNat (by omega)
              rw [← d2, List.getD_eq_getElem?_getD, List.getElem?_drop, show c.toNat + 1 + (c' - c - 1).toNat = c'.toNat by omega] at h9
              rw [List.getD_eq_getElem?_getD]
              exact h9.symm
        · rw [u1, ← d2, List.drop_drop]
          congr 2
          omega
      have scan : ∀ (r : Nat) (j left' : Int), 0 ≤ j → j + r = 8 → (0 ≤ left' ∧ left' ≤ 2147483647) → (fmr (fun j => if ldg (pO (m (p + 3))) (rB (m (p + 2))) (bt (m p 0)) (7 - c).toNat used j = true then (bst (pO (m (p + 3))) (rB (m (p + 2))) (bt (m p 0)) (7 - c).toNat (iOr used (iShl 1 j))).map (fun l => j :: l) else []) r j)[left'.toNat]? = some (T.drop c.toNat) → aX4_pick_34 (d + 1) p 8 y used left' t c j m1 Q := by
        intro r
        induction r with
        | zero => intro j left' _ _ _ g; simp [fmr] at g
        | succ r ihr =>
          intro j left' hj0 hjr hl' g
          have ej : w32 (j + 1) = j + 1 := w32_id (by omega) (by omega)
          have hor := mk_or1 hu (k := j) ⟨by omega, by omega⟩
          have hpos := dpt_pos (C := bt (m p 0)) hB (show (7 - c).toNat ≤ 8 by omega) hor
          have hlen := bst_len (C := bt (m p 0)) hB (show (7 - c).toNat ≤ 8 by omega) hor
          unfold fmr at g
          have hno : m1 y c = -1 := hhigh c (by omega) b1 b2
          refine gX4_pick_34 (d + 1) p 8 y used left' t c j m1 Q ⟨fun q => ⟨by omega, fun _ => s_leads kW (by rw [k3]; exact hr) (by rw [k3, k2]; exact hB) hu (by rw [k0]; exact hus) (by rw [k0, hpc]; exact htc) (by rw [k1, hpc]; exact hc) ⟨by omega, by omega⟩ ⟨fun q2 => ?_, fun q2 => ⟨hor, ?_, ?_⟩⟩, fun q2 => absurd hno q2⟩, fun q => by omega⟩
          · rw [bI_0, k3, k2, k0] at q2
            rw [if_neg q2, List.nil_append] at g
            rw [ej]
            exact ihr (j + 1) left' (by omega) (by omega) hl' g
          all_goals
            rw [bI_0, k3, k2, k0, Classical.not_not] at q2
            rw [if_pos q2, fm_get, List.length_map] at g
            have hld := q2
            unfold ldg at hld
            rw [e7] at hld
            simp only [Bool.and_eq_true, Bool.not_eq_true', decide_eq_true_eq, pO] at hld
            have hopen := plL_open hW.1 ht0 htc (show 0 ≤ j ∧ j < 8 by omega) (by rw [hc]; exact hld.1.1.2)
            have hEt := hW.2 _ hor (sub_or1 ⟨by omega, by omega⟩ hus hopen)
            unfold pEn at hEt
            rw [pc8_1 ⟨by omega, by omega⟩ hld.1.1.1, hpc, ← pLv_next hW.1 ht0 htc, hc] at hEt
            rw [k5, hEt.2]
            intro q3
          · rw [if_pos (by omega), List.getElem?_map] at g
            refine ⟨by omega, ?_⟩
            have w1 : ∀ q, q ≠ y → jUp m1 y c j q = m q := fun q hq => by rw [up_ne hq]; exact hf q hq
            have w2 : ∀ c' : Int, 0 ≤ c' → c' < c → jUp m1 y c j y c' = T.getD c'.toNat (-1) := fun c' g1 g2 => by rw [up_oth (by omega)]; exact hlow c' g1 (by omega)
            have w3 : ∀ c' : Int, c < c' → c' < 8 → jUp m1 y c j y c' = -1 := fun c' g1 g2 => by rw [up_oth (by omega)]; exact hhigh c' (by omega) (by omega) g2
            cases hx2 : (bst (pO (m (p + 3))) (rB (m (p + 2))) (bt (m p 0)) (7 - c).toNat (iOr used (iShl 1 j)))[left'.toNat]? with
            | none => rw [hx2] at g; cases g
            | some l =>
              rw [hx2] at g
              have done := fin j left' _ l ⟨by omega, by omega⟩ hld.1.1.1 hld.1.1.2 hl' w1 w2 w3 up_same (Option.some.inj g).symm hx2
              refine gX4_pick_34 (d + 1) p 8 y _ left' t c _ _ Q ⟨fun _ => ⟨by omega, fun q4 => ?_, fun _ => done⟩, fun _ => done⟩
              rw [up_same] at q4; omega
          · rw [if_neg (by omega)] at g
            refine ⟨hor, ?_⟩
            rw [ej, w32_id (z := left' - (dpt 0 (pO (m (p + 3))) (rB (m (p + 2))) (bt (m p 0)) (7 - c).toNat (iOr used (iShl 1 j))).2) (by omega) (by omega)]
            refine ihr (j + 1) _ (by omega) (by omega) (by omega) ?_
            rw [show (left' - (dpt 0 (pO (m (p + 3))) (rB (m (p + 2))) (bt (m p 0)) (7 - c).toNat (iOr used (iShl 1 j))).2).toNat = left'.toNat - (bst (pO (m (p + 3))) (rB (m (p + 2))) (bt (m p 0)) (7 - c).toNat (iOr used (iShl 1 j))).length by omega]
            exact g
      refine gX4_pick_13 (d + 1) p 8 y used left t m1 Q ⟨fun _ => ⟨by omega, ?_⟩, fun q => by rw [k0] at q; omega⟩
      rw [k1, hc]
      exact scan 8 0 left (by omega) rfl hl hi
  obtain ⟨e, e1, e2⟩ := pLv_sk0 hW.1
  have hT2 := hT
  rw [e1] at hT2
  obtain ⟨u1, u2⟩ := bst_skip _ _ e2 hT2
  refine L13 (m p 1).toNat 0 i 0 m0 (by omega) (by omega) mk_0 (fun j _ _ g => by rw [bt_0] at g; cases g) pc8_0 h0 hfr (fun c' g1 g2 => ?_) (fun c' _ g1 g2 => hfy c' g1 g2) (by omega) ?_
  · rw [hfy c' g1 (by omega), u2 c'.toNat (by omega)]
  · rw [u1]
    congr 2
    omega

/-! the class's Greatest: spread, find -/
def sI (E : Int → Int → Bool) (C : Int → Prop) (h : Int → Int) (X : Int → Prop) (A B : Int) : Prop := mk8 A ∧ mk8 B ∧ (∀ c : Int, 0 ≤ c → c < 8 → C c → ¬ mD h c → bt A c = true) ∧ (∀ c : Int, 0 ≤ c → c < 8 → bt A c = true → C c ∧ X c) ∧
  (∀ j : Int, 0 ≤ j → j < 8 → bt B j = true → ∃ c : Int, 0 ≤ c ∧ c < 8 ∧ bt A c = true ∧ E j c = true) ∧
  (∀ c : Int, 0 ≤ c → c < 8 → bt A c = true → ∃ g, mV E C g ∧ mN g = mN h ∧ ¬ mD g c ∧ ∀ j : Int, 0 ≤ j → j < 8 → g j = h j ∨ (h j ≠ -1 ∧ bt A (h j) = true))
def sC (E : Int → Int → Bool) (h : Int → Int) (A B : Int) : Prop := (∀ j c : Int, 0 ≤ j → j < 8 → 0 ≤ c → c < 8 → bt A c = true → E j c = true → bt B j = true) ∧ ∀ j : Int, 0 ≤ j → j < 8 → bt B j = true → h j ≠ -1 → bt A (h j) = true
/-- a case is reached by a judge that is -/
theorem sI_add {E : Int → Int → Bool} {C : Int → Prop} {h : Int → Int} {X : Int → Prop} {A B j : Int} (hv : mV E C h) (hX : mCl E h X) (hI : sI E C h X A B) (hj : 0 ≤ j ∧ j < 8) (hb : bt B j = true) (hh : h j ≠ -1) : sI E C h X (iOr A (iShl 1 (h j))) B := by
  obtain ⟨a1, a2, a3, a4, a5, a6⟩ := hI
  have hr : (0 ≤ h j ∧ h j < 8) ∧ C (h j) := by
    rcases hv.1 j hj.1 hj.2 with g | g
    · exact absurd g hh
    · exact ⟨⟨g.1, g.2.1⟩, g.2.2.1⟩
  obtain ⟨c, c1, c2, c3, c4⟩ := a5 j hj.1 hj.2 hb
  have hxc := a4 c c1 c2 c3
  refine ⟨mk_or1 a1 hr.1, a2, fun x h1 h2 h3 h4 => (bt_or1 hr.1 ⟨h1, h2⟩).mpr (Or.inl (a3 x h1 h2 h3 h4)), fun x h1 h2 h3 => ?_, fun x h1 h2 h3 => ?_, fun x h1 h2 h3 => ?_⟩
  · rcases (bt_or1 hr.1 ⟨h1, h2⟩).mp h3 with g | g
    · exact a4 x h1 h2 g
    · rw [g]; exact ⟨hr.2, (hX c j hxc.2 hj.1 hj.2 c4).2⟩
  · obtain ⟨z, z1, z2, z3, z4⟩ := a5 x h1 h2 h3
    exact ⟨z, z1, z2, (bt_or1 hr.1 ⟨z1, z2⟩).mpr (Or.inl z3), z4⟩
  · have old : ∀ x : Int, 0 ≤ x → x < 8 → bt A x = true → ∃ g, mV E C g ∧ mN g = mN h ∧ ¬ mD g x ∧ ∀ i : Int, 0 ≤ i → i < 8 → g i = h i ∨ (h i ≠ -1 ∧ bt (iOr A (iShl 1 (h j))) (h i) = true) := by
      intro x h1 h2 h3
      obtain ⟨g, g1, g2, g3, g4⟩ := a6 x h1 h2 h3
      refine ⟨g, g1, g2, g3, fun i i1 i2 => (g4 i i1 i2).imp id (fun q => ⟨q.1, ?_⟩)⟩
      have hi : 0 ≤ h i ∧ h i < 8 := by
        rcases hv.1 i i1 i2 with k | k
        · exact absurd k q.1
        · exact ⟨k.1, k.2.1⟩
      exact (bt_or1 hr.1 hi).mpr (Or.inl q.2)
    by_cases hA : bt A x = true
    · exact old x h1 h2 hA
    · have hx : x = h j := by
        rcases (bt_or1 hr.1 ⟨h1, h2⟩).mp h3 with g | g
        · exact absurd g hA
        · exact g
      obtain ⟨g, g1, g2, g3, g4⟩ := a6 c c1 c2 c3
      have hgj : g j = h j := by
        rcases g4 j hj.1 hj.2 with k | k
        · exact k
        · rw [← hx] at k; exact absurd k.2 hA
      have hcx : c ≠ x := by rintro rfl; exact hA c3
      refine ⟨fun y => if y = j then c else g y, mV_w (mV_set g1 hj ⟨c1, c2⟩ c4 (fun y y1 y2 _ y4 => g3 ⟨y, y1, y2, y4⟩)) (fun y hy => by rcases hy with hy | hy; exact hy; rw [hy]; exact hxc.1), ?_, ?_, fun i i1 i2 => ?_⟩
      · rw [← g2]
        unfold mN
        refine pcn_ext (fun y y1 y2 => ?_)
        show decide ((if y = j then c else g y) ≠ -1) = decide (g y ≠ -1)
        rw [decide_eq_decide]
        by_cases hy : y = j
        · have e1 : c ≠ -1 := by omega
          rw [if_pos hy, hy, hgj]
          exact ⟨fun _ => hh, fun _ => e1⟩
        · rw [if_neg hy]
      · rintro ⟨y, y1, y2, y3⟩
        dsimp only at y3
        by_cases hy : y = j
        · rw [if_pos hy] at y3; exact hcx y3
        · rw [if_neg hy] at y3
          exact hy (g1.2 y j y1 y2 hj.1 hj.2 (by rw [hgj, y3, hx]) (by rw [y3]; omega))
      · dsimp only
        by_cases hy : i = j
        · right
          rw [hy]
          exact ⟨hh, (bt_or1 hr.1 hr.1).mpr (Or.inr rfl)⟩
        · rw [if_neg hy]
          refine (g4 i i1 i2).imp id (fun q => ⟨q.1, ?_⟩)
          have hi : 0 ≤ h i ∧ h i < 8 := by
            rcases hv.1 i i1 i2 with k | k
            · exact absurd k q.1
            · exact ⟨k.1, k.2.1⟩
          exact (bt_or1 hr.1 hi).mpr (Or.inl q.2)
theorem sI_fin {E : Int → Int → Bool} {C : Int → Prop} {h : Int → Int} {X : Int → Prop} {A B : Int} (hv : mV E C h) (hC : mC E C h X) (hI : sI E C h X A B) (hc : sC E h A B) : mMk E C A B (mN h) := by
  obtain ⟨a1, a2, a3, a4, a5, a6⟩ := hI
  refine ⟨⟨⟨h, hv, rfl⟩, fun g hg => cert_max hv hC hg⟩, a1, fun c c1 c2 => ⟨fun hA => ⟨(a4 c c1 c2 hA).1, mN h, ⟨?_, fun g hg => cert_max hv hC (mV_w hg (fun x hx => hx.1))⟩, Int.le_refl _⟩, fun ⟨g1, n', g2, g3⟩ => ?_⟩, a2, fun j j1 j2 => ⟨fun hb => a5 j j1 j2 hb, fun ⟨c, c1, c2, c3, c4⟩ => hc.1 j c j1 j2 c1 c2 c3 c4⟩⟩
  · obtain ⟨g, g1, g2, g3, _⟩ := a6 c c1 c2 hA
    refine ⟨g, ⟨fun j j1 j2 => (g1.1 j j1 j2).imp id (fun k => ⟨k.1, k.2.1, ⟨k.2.2.1, fun e => g3 ⟨j, j1, j2, e⟩⟩, k.2.2.2⟩), g1.2⟩, g2⟩
  · apply Classical.byContradiction
    intro hA
    have hm : mD h c := Classical.byContradiction fun hn => hA (a3 c c1 c2 g1 hn)
    obtain ⟨jc, j1, j2, j3⟩ := hm
    have hv0 : mV E (fun x => C x ∧ x ≠ c) (rel1 h jc) := by
      have hr := mV_rel (j := jc) hv
      refine ⟨fun j k1 k2 => (hr.1 j k1 k2).imp id (fun k => ⟨k.1, k.2.1, ⟨k.2.2.1, fun e => ?_⟩, k.2.2.2⟩), hr.2⟩
      have e : rel1 h jc j = c := e
      unfold rel1 at e
      by_cases hj : j = jc
      · rw [if_pos hj] at e; omega
      · rw [if_neg hj] at e
        exact hj (hv.2 j jc k1 k2 j1 j2 (by rw [e, j3]) (by rw [e]; omega))
    have hC0 : mC E (fun x => C x ∧ x ≠ c) (rel1 h jc) (fun x => 0 ≤ x ∧ x < 8 ∧ bt A x = true) := by
      refine ⟨fun x x1 x2 x3 x4 => ⟨x1, x2, a3 x x1 x2 x3.1 (fun ⟨j, k1, k2, k3⟩ => x4 ⟨j, k1, k2, ?_⟩)⟩, fun x j ⟨x1, x2, x3⟩ k1 k2 k3 => ?_⟩
      · unfold rel1
        rw [if_neg (by rintro rfl; exact x3.2 (by rw [← k3, j3]))]
        exact k3
      · obtain ⟨b1, b2⟩ := hC.2 x j (a4 x x1 x2 x3).2 k1 k2 k3
        have hb := hc.1 j x k1 k2 x1 x2 x3 k3
        have hA2 := hc.2 j k1 k2 hb b1
        have hne : j ≠ jc := by rintro rfl; rw [j3] at hA2; exact hA hA2
        unfold rel1
        rw [if_neg hne]
        have hr : 0 ≤ h j ∧ h j < 8 := by
          rcases hv.1 j k1 k2 with k | k
          · exact absurd k b1
          · exact ⟨k.1, k.2.1⟩
        exact ⟨b1, hr.1, hr.2, hA2⟩
    obtain ⟨⟨g, k1, k2⟩, _⟩ := g2
    have h1 := cert_max hv0 hC0 k1
    have h2 : mN h = mN (rel1 h jc) + 1 := by
      unfold mN
      refine pcn_add (k := jc) ⟨j1, j2⟩ (by unfold rel1; simp) (fun x x1 x2 => ?_)
      unfold rel1
      by_cases hx : x = jc
      · rw [if_pos hx, hx, j3]
        have : c ≠ -1 := by omega
        simp [this]
      · rw [if_neg hx]; simp [hx]
    omega
theorem s_spread {d : Nat} {y x : Int} {X : Int → Prop} {m : jM} {Q : Int → jM → Prop} (hy : y < 70 ∨ 74 < y) (hr : ∀ c : Int, 0 ≤ c → c < 8 → mk8 (m y c)) (hv : mV (pO (m y)) (fun c => bt x c = true) (m 72)) (hC : mC (pO (m y)) (fun c => bt x c = true) (m 72) X) (hi : iV (m 72) (m 71))
    (h : ∀ m' : jM, (∀ q, q ≠ 70 → m' q = m q) → m' 70 0 = m 70 0 → mMk (pO (m y)) (fun c => bt x c = true) (m' 70 1) (m' 70 2) (mN (m 72)) → Q 0 m') : jK (d + 1) zX2_spread [jO 2 70, jY 0 8 y, jI x] m Q := by
  have L57 : ∀ (r : Nat) (t : Int) (m1 : jM), t + r = 9 → 0 ≤ t → (∀ q, q ≠ 70 → m1 q = m q) → m1 70 0 = m 70 0 → sI (pO (m y)) (fun c => bt x c = true) (m 72) X (m1 70 1) (m1 70 2) → (∀ j : Int, 0 ≤ j → j < 8 → bt (m1 70 2) j = true → m 72 j ≠ -1 → bt (m1 70 1) (m 72 j) = true) → (sC (pO (m y)) (m 72) (m1 70 1) (m1 70 2) ∨ t ≤ pc8 (m1 70 1)) → aX2_spread_57 d 8 y t m1 Q := by
    intro r
    induction r with
    | zero =>
      intro t m1 htr ht f0 f1 hI hh hc
      have hp := pc8_r (m1 70 1)
      refine gX2_spread_57 d 8 y t m1 Q ⟨fun _ => h m1 f0 f1 (sI_fin hv hC hI ?_), fun q => by omega⟩
      rcases hc with g | g
      · exact g
      · omega
    | succ r ih =>
      intro t m1 htr ht f0 f1 hI hh hc
      have et : w32 (t + 1) = t + 1 := w32_id (by omega) (by omega)
      -- the second loop
      have L108 : ∀ (s : Nat) (j : Int) (m2 : jM), 0 ≤ j → j + s = 8 → (∀ q, q ≠ 70 → m2 q = m q) → m2 70 0 = m 70 0 → sI (pO (m y)) (fun c => bt x c = true) (m 72) X (m2 70 1) (m2 70 2) → (∀ i c : Int, 0 ≤ i → i < 8 → 0 ≤ c → c < 8 → bt (m1 70 1) c = true → pO (m y) i c = true → bt (m2 70 2) i = true) → (∀ i : Int, 0 ≤ i → i < 8 → bt (m2 70 2) i = true → bt (m1 70 2) i = true ∨ ∃ c : Int, 0 ≤ c ∧ c < 8 ∧ bt (m1 70 1) c = true ∧ pO (m y) i c = true) → (∀ c : Int, 0 ≤ c → c < 8 → bt (m1 70 1) c = true → bt (m2 70 1) c = true) →
          (∀ c : Int, 0 ≤ c → c < 8 → bt (m2 70 1) c = true → bt (m1 70 1) c = true ∨ ∃ i : Int, 0 ≤ i ∧ i < 8 ∧ bt (m2 70 2) i = true ∧ m 72 i ≠ -1 ∧ m 72 i = c) → (∀ i : Int, 0 ≤ i → i < j → bt (m2 70 2) i = true → m 72 i ≠ -1 → bt (m2 70 1) (m 72 i) = true) → aX2_spread_108 d 8 y t j m2 Q := by
        intro s
        induction s with
        | zero =>
          intro j m2 hj hs g0 g1 g2 g3 g4 g5 g6 g7
          refine gX2_spread_108 d 8 y t j m2 Q ⟨fun q => by omega, fun _ => ?_⟩
          rw [et]
          refine ih (t + 1) m2 (by omega) (by omega) g0 g1 g2 (fun i i1 i2 => g7 i i1 (by omega)) ?_
          -- either nothing came, or one more
          by_cases hsame : ∀ c : Int, 0 ≤ c → c < 8 → bt (m2 70 1) c = true → bt (m1 70 1) c = true
          · left
            exact ⟨fun i c i1 i2 c1 c2 c3 c4 => g3 i c i1 i2 c1 c2 (hsame c c1 c2 c3) c4, fun i i1 i2 => g7 i i1 (by omega)⟩
          · right
            have hex : ∃ c : Int, 0 ≤ c ∧ c < 8 ∧ bt (m2 70 1) c = true ∧ bt (m1 70 1) c = false := by
              apply Classical.byContradiction
              intro hn
              apply hsame
              intro c c1 c2 c3
              cases hb : bt (m1 70 1) c with
              | true => rfl
              | false => exact absurd ⟨c, c1, c2, c3, hb⟩ hn
            obtain ⟨c, c1, c2, c3, c4⟩ := hex
            have hgrow : pc8 (m1 70 1) + 1 ≤ pc8 (m2 70 1) := by
              rw [← pc8_1 ⟨c1, c2⟩ c4]
              refine pcn_inj (f := id) (fun z z1 z2 z3 => ⟨z1, z2, ?_⟩) (fun _ _ _ _ _ _ _ _ e => e)
              rcases (bt_or1 ⟨c1, c2⟩ ⟨z1, z2⟩).mp z3 with k | k
              · exact g5 z z1 z2 k
              · show bt (m2 70 1) z = true
                rw [k]; exact c3
            rcases hc with k | k
            · exfalso
              rcases g6 c c1 c2 c3 with q | ⟨i, i1, i2, i3, i4, i5⟩
              · rw [q] at c4; cases c4
              · have hib : bt (m1 70 2) i = true := by
                  rcases g4 i i1 i2 i3 with q | ⟨z, z1, z2, z3, z4⟩
                  · exact q
                  · exact k.1 i z i1 i2 z1 z2 z3 z4
                have := hh i i1 i2 hib i4
                rw [i5, c4] at this
                cases this
            · omega
        | succ s ihs =>
          intro j m2 hj hs g0 g1 g2 g3 g4 g5 g6 g7
          have ej : w32 (j + 1) = j + 1 := w32_id (by omega) (by omega)
          have hj8 : 0 ≤ j ∧ j < 8 := by omega
          have k72 := g0 72 (by omega)
          have skip : (bt (m2 70 2) j = true → m 72 j ≠ -1 → bt (m2 70 1) (m 72 j) = true) → aX2_spread_108 d 8 y t (w32 (j + 1)) m2 Q := by
            intro hn
            rw [ej]
            refine ihs (j + 1) m2 (by omega) (by omega) g0 g1 g2 g3 g4 g5 g6 (fun i i1 i2 i3 i4 => ?_)
            by_cases hi : i = j
            · rw [hi] at i3 i4 ⊢; exact hn i3 i4
            · exact g7 i i1 (by omega) i3 i4
          refine gX2_spread_108 d 8 y t j m2 Q ⟨fun _ => ⟨fun q => ⟨hj8, fun q2 => skip (fun _ k => ?_), fun q2 => ⟨hj8, ?_⟩⟩, fun q => skip (fun k _ => ?_)⟩, fun q => by omega⟩
          · rw [k72] at q2; exact absurd q2 k
          · rw [bt_shr (by omega)] at q
            rw [k72] at q2 ⊢
            have hI2 := sI_add hv hC.2 g2 hj8 q q2
            have hr1 : 0 ≤ m 72 j ∧ m 72 j < 8 := by
              rcases hv.1 j hj8.1 hj8.2 with k | k
              · exact absurd k q2
              · exact ⟨k.1, k.2.1⟩
            have a1 : jUp m2 70 1 (iOr (m2 70 1) (iShl 1 (m 72 j))) 70 1 = iOr (m2 70 1) (iShl 1 (m 72 j)) := up_same
            have a2 : jUp m2 70 1 (iOr (m2 70 1) (iShl 1 (m 72 j))) 70 2 = m2 70 2 := up_oth (by omega)
            have a0 : jUp m2 70 1 (iOr (m2 70 1) (iShl 1 (m 72 j))) 70 0 = m2 70 0 := up_oth (by omega)
            rw [ej]
            refine ihs (j + 1) _ (by omega) (by omega) (fun q h1 => by rw [up_ne h1]; exact g0 q h1) (by rw [a0]; exact g1) (by rw [a1, a2]; exact hI2) (by rw [a2]; exact g3) (by rw [a2]; exact g4) (fun c c1 c2 c3 => by rw [a1]; exact (bt_or1 hr1 ⟨c1, c2⟩).mpr (Or.inl (g5 c c1 c2 c3))) (fun c c1 c2 c3 => ?_) (fun i i1 i2 i3 i4 => ?_)
            · rw [a1] at c3
              rw [a2]
              rcases (bt_or1 hr1 ⟨c1, c2⟩).mp c3 with k | k
              · exact g6 c c1 c2 k
              · exact Or.inr ⟨j, hj8.1, hj8.2, q, q2, k.symm⟩
            · rw [a2] at i3
              rw [a1]
              have hri : 0 ≤ m 72 i ∧ m 72 i < 8 := by
                rcases hv.1 i i1 (by omega) with k | k
                · exact absurd k i4
                · exact ⟨k.1, k.2.1⟩
              by_cases hi : i = j
              · rw [hi] at hri ⊢; exact (bt_or1 hr1 hri).mpr (Or.inr rfl)
              · exact (bt_or1 hr1 hri).mpr (Or.inl (g7 i i1 (by omega) i3 i4))
          · rw [bt_shr (by omega)] at q; exact absurd k q
      -- the first loop
      have L66 : ∀ (s : Nat) (c : Int) (m2 : jM), 0 ≤ c → c + s = 8 → (∀ q, q ≠ 70 → m2 q = m q) → m2 70 0 = m 70 0 → m2 70 1 = m1 70 1 → sI (pO (m y)) (fun c => bt x c = true) (m 72) X (m2 70 1) (m2 70 2) → (∀ i z : Int, 0 ≤ i → i < 8 → 0 ≤ z → z < c → bt (m1 70 1) z = true → pO (m y) i z = true → bt (m2 70 2) i = true) → (∀ i : Int, 0 ≤ i → i < 8 → bt (m2 70 2) i = true → bt (m1 70 2) i = true ∨ ∃ c : Int, 0 ≤ c ∧ c < 8 ∧ bt (m1 70 1) c = true ∧ pO (m y) i c = true) → aX2_spread_66 d 8 y t c m2 Q := by
        intro s
        induction s with
        | zero =>
          intro c m2 hc0 hs g0 g1 g1' g2 g3 g4
          refine gX2_spread_66 d 8 y t c m2 Q ⟨fun q => by omega, fun _ => ?_⟩
          exact L108 8 0 m2 (by omega) (by omega) g0 g1 g2 (fun i z i1 i2 z1 z2 => g3 i z i1 i2 z1 (by omega)) g4 (fun z _ _ z3 => by rw [g1']; exact z3) (fun z _ _ z3 => by rw [g1'] at z3; exact Or.inl z3) (fun i i1 i2 => by omega)
        | succ s ihs =>
          intro c m2 hc0 hs g0 g1 g1' g2 g3 g4
          have ec : w32 (c + 1) = c + 1 := w32_id (by omega) (by omega)
          have hc8 : 0 ≤ c ∧ c < 8 := by omega
          refine gX2_spread_66 d 8 y t c m2 Q ⟨fun _ => ⟨fun q => ⟨hc8, ?_⟩, fun q => ?_⟩, fun q => by omega⟩
          · rw [bt_shr (by omega)] at q
            rw [g0 y (by omega), ec]
            have a2 : jUp m2 70 2 (iOr (m2 70 2) (m y c)) 70 2 = iOr (m2 70 2) (m y c) := up_same
            have a1 : jUp m2 70 2 (iOr (m2 70 2) (m y c)) 70 1 = m2 70 1 := up_oth (by omega)
            have a0 : jUp m2 70 2 (iOr (m2 70 2) (m y c)) 70 0 = m2 70 0 := up_oth (by omega)
            have hor : ∀ i, bt (iOr (m2 70 2) (m y c)) i = true ↔ bt (m2 70 2) i = true ∨ pO (m y) i c = true := fun i => by rw [bt_or, Bool.or_eq_true]; exact Iff.rfl
            obtain ⟨b1, b2, b3, b4, b5, b6⟩ := g2
            refine ihs (c + 1) _ (by omega) (by omega) (fun q h1 => by rw [up_ne h1]; exact g0 q h1) (by rw [a0]; exact g1) (by rw [a1]; exact g1') ⟨by rw [a1]; exact b1, by rw [a2]; exact mk_or b2 (hr c hc8.1 hc8.2), by rw [a1]; exact b3, by rw [a1]; exact b4, fun i i1 i2 i3 => ?_, by rw [a1]; exact b6⟩ (fun i z i1 i2 z1 z2 z3 z4 => ?_) (fun i i1 i2 i3 => ?_)
            · rw [a2, hor] at i3
              rw [a1]
              rcases i3 with k | k
              · exact b5 i i1 i2 k
              · exact ⟨c, hc8.1, hc8.2, q, k⟩
            · rw [a2, hor]
              by_cases hz : z = c
              · rw [hz] at z4; exact Or.inr z4
              · exact Or.inl (g3 i z i1 i2 z1 (by omega) z3 z4)
            · rw [a2, hor] at i3
              rcases i3 with k | k
              · exact g4 i i1 i2 k
              · exact Or.inr ⟨c, hc8.1, hc8.2, by rw [← g1']; exact q, k⟩
          · rw [bt_shr (by omega), g1'] at q
            rw [ec]
            refine ihs (c + 1) m2 (by omega) (by omega) g0 g1 g1' g2 (fun i z i1 i2 z1 z2 z3 z4 => ?_) g4
            by_cases hz : z = c
            · rw [hz] at z3; exact absurd z3 q
            · exact g3 i z i1 i2 z1 (by omega) z3 z4
      exact gX2_spread_57 d 8 y t m1 Q ⟨fun q => by omega, fun _ => L66 8 0 m1 (by omega) (by omega) f0 f1 rfl hI (fun i z _ _ _ _ => by omega) (fun i _ _ k => Or.inl k)⟩
  have L12 : ∀ (r : Nat) (c : Int) (m1 : jM), 0 ≤ c → c + r = 8 → (∀ q, q ≠ 70 → m1 q = m q) → m1 70 0 = m 70 0 → m1 70 2 = 0 → mk8 (m1 70 1) → (∀ z : Int, 0 ≤ z → z < 8 → (bt (m1 70 1) z = true ↔ z < c ∧ bt x z = true ∧ ¬ mD (m 72) z)) → aX2_spread_12 d 8 y x c m1 Q := by
    intro r
    induction r with
    | zero =>
      intro c m1 hc hr0 f0 f1 f2 f3 f4
      refine gX2_spread_12 d 8 y x c m1 Q ⟨fun q => by omega, fun _ => ?_⟩
      refine L57 9 0 m1 (by omega) (by omega) f0 f1 ⟨f3, by rw [f2]; exact mk_0, fun z z1 z2 z3 z4 => (f4 z z1 z2).mpr ⟨by omega, z3, z4⟩, fun z z1 z2 z3 => ?_, (fun j _ _ j3 => by rw [f2, bt_0] at j3; cases j3), fun z z1 z2 z3 => ?_⟩ (fun j _ _ j3 => by rw [f2, bt_0] at j3; cases j3) (Or.inr (pc8_r _).1)
      · have := (f4 z z1 z2).mp z3
        exact ⟨this.2.1, hC.1 z z1 z2 this.2.1 this.2.2⟩
      · have := (f4 z z1 z2).mp z3
        exact ⟨m 72, hv, rfl, this.2.2, fun j _ _ => Or.inl rfl⟩
    | succ r ih =>
      intro c m1 hc hr0 f0 f1 f2 f3 f4
      have ec : w32 (c + 1) = c + 1 := w32_id (by omega) (by omega)
      have hc8 : 0 ≤ c ∧ c < 8 := by omega
      have k71 := f0 71 (by omega)
      have skip : ¬ (bt x c = true ∧ ¬ mD (m 72) c) → aX2_spread_12 d 8 y x (w32 (c + 1)) m1 Q := by
        intro hn
        rw [ec]
        refine ih (c + 1) m1 (by omega) (by omega) f0 f1 f2 f3 (fun z z1 z2 => ?_)
        rw [f4 z z1 z2]
        constructor
        · intro g; exact ⟨by omega, g.2⟩
        · intro g
          have : z ≠ c := by rintro rfl; exact hn g.2
          exact ⟨by omega, g.2⟩
      refine gX2_spread_12 d 8 y x c m1 Q ⟨fun _ => ⟨fun q => ⟨hc8, fun q2 => ?_, fun q2 => skip ?_⟩, fun q => skip ?_⟩, fun q => by omega⟩
      · rw [bt_shr (by omega)] at q
        rw [k71] at q2
        have hun : ¬ mD (m 72) c := by
          rcases hi c hc8.1 hc8.2 with g | g
          · exact g.2
          · omega
        have a1 : jUp m1 70 1 (iOr (m1 70 1) (iShl 1 c)) 70 1 = iOr (m1 70 1) (iShl 1 c) := up_same
        rw [ec]
        refine ih (c + 1) _ (by omega) (by omega) (fun q h1 => by rw [up_ne h1]; exact f0 q h1) (by rw [up_oth (by omega)]; exact f1) (by rw [up_oth (by omega)]; exact f2) (by rw [a1]; exact mk_or1 f3 hc8) (fun z z1 z2 => ?_)
        rw [a1, bt_or1 hc8 ⟨z1, z2⟩, f4 z z1 z2]
        constructor
        · rintro (g | g)
          · exact ⟨by omega, g.2⟩
          · rw [g]; exact ⟨by omega, q, hun⟩
        · intro g
          by_cases hz : z = c
          · exact Or.inr hz
          · exact Or.inl ⟨by omega, g.2⟩
      · rw [k71] at q2
        rintro ⟨_, g⟩
        rcases hi c hc8.1 hc8.2 with k | k
        · exact q2 k.1
        · exact g ⟨_, k.1, k.2.1, k.2.2⟩
      · rw [bt_shr (by omega)] at q
        exact fun g => q g.1
  refine gX2_spread d 8 y x m Q (L12 8 0 _ (by omega) (by omega) (fun q h1 => by rw [up_ne h1, up_ne h1]) (by rw [up_oth (by omega), up_oth (by omega)]) up_same (by rw [up_oth (by omega), up_same]; exact mk_0) (fun z z1 z2 => ?_))
  rw [up_oth (by omega), up_same, bt_0]
  exact ⟨(fun g => by cases g), (fun g => by omega)⟩
theorem s_gfind {d : Nat} {y x : Int} {m : jM} {Q : Int → jM → Prop} (hy : y < 70 ∨ 74 < y) (hr : ∀ c : Int, 0 ≤ c → c < 8 → mk8 (m y c))
    (h : ∀ m' : jM, (∀ q, (q < 70 ∨ 74 < q) → m' q = m q) → mMk (pO (m y)) (fun c => bt x c = true) (m' 70 1) (m' 70 2) (m' 70 0) → (0 ≤ m' 70 0 ∧ m' 70 0 ≤ 8) → Q 0 m') : jK (d + 3) zX2_find [jO 2 70, jY 0 8 y, jI x] m Q := by
  have L23 : ∀ (r : Nat) (c : Int) (m1 : jM) (X : Int → Prop), 0 ≤ c → c + r = 8 → (∀ q, (q < 70 ∨ 74 < q) → m1 q = m q) → mV (pO (m y)) (fun z => bt x z = true ∧ z < c) (m1 72) → mC (pO (m y)) (fun z => bt x z = true ∧ z < c) (m1 72) X → iV (m1 72) (m1 71) → m1 70 0 = mN (m1 72) → aX2_find_23 (d + 2) 8 y x c m1 Q := by
    intro r
    induction r with
    | zero =>
      intro c m1 X hc hr0 f0 f1 f2 f3 f4
      have ky := f0 y (by omega)
      have hw : ∀ z : Int, 0 ≤ z → z < 8 → (bt x z = true ↔ (bt x z = true ∧ z < c)) := fun z z1 z2 => ⟨fun g => ⟨g, by omega⟩, fun g => g.1⟩
      refine gX2_find_23 (d + 2) 8 y x c m1 Q ⟨fun q => by omega, fun _ => jK_deep (show d + 1 ≤ d + 2 by omega) (s_spread (X := X) hy (by rw [ky]; exact hr) ?_ ?_ f3 (fun m' g0 g1 g2 => ?_))⟩
      · rw [ky]; exact mV_E (fun z z1 z2 z3 => (hw z z1 z2).mpr z3) (fun _ _ _ _ _ _ _ k => k) f1
      · rw [ky]; exact ⟨fun z z1 z2 z3 => f2.1 z z1 z2 ((hw z z1 z2).mp z3), f2.2⟩
      · rw [ky] at g2
        have hn : m' 70 0 = mN (m1 72) := by rw [g1, f4]
        rw [← hn] at g2
        refine h m' (fun q hq => by rw [g0 q (by omega)]; exact f0 q hq) g2 ?_
        rw [hn]
        exact pcn_nn _ 8
    | succ r ih =>
      intro c m1 X hc hr0 f0 f1 f2 f3 f4
      have ec : w32 (c + 1) = c + 1 := w32_id (by omega) (by omega)
      have hc8 : 0 ≤ c ∧ c < 8 := by omega
      have ky := f0 y (by omega)
      refine gX2_find_23 (d + 2) 8 y x c m1 Q ⟨fun _ => ⟨fun q => ?_, fun q => ?_⟩, fun q => by omega⟩
      · rw [bt_shr (by omega)] at q
        have hun : ¬ mD (m1 72) c := by
          rintro ⟨j, j1, j2, j3⟩
          rcases f1.1 j j1 j2 with g | ⟨_, _, g, _⟩
          · omega
          · have := g.2; omega
        have hw : ∀ z : Int, 0 ≤ z → z < 8 → ((bt x z = true ∧ z < c + 1) ↔ ((bt x z = true ∧ z < c) ∨ z = c)) := fun z z1 z2 => by
          constructor
          · intro g
            by_cases hz : z = c
            · exact Or.inr hz
            · exact Or.inl ⟨g.1, by omega⟩
          · rintro (g | g)
            · exact ⟨g.1, by omega⟩
            · rw [g]; exact ⟨q, by omega⟩
        refine s_grow (X := X) hy hc8 (by rw [ky]; exact f1) hun (by rw [ky]; exact f2.2) f3 (fun m' g0 g1 g2 => ⟨fun k => by omega, fun _ => ?_⟩) (fun m' X0 g0 g1 g2 g3 g4 => ⟨fun _ => ?_, fun k => by omega⟩)
        · rw [ky] at g1
          have hN := mAug_N f1 hc8 hun g1
          have hC2 := mAug_C f2 g1
          have hnr := pcn_nn (fun j => decide (m1 72 j ≠ -1)) 8
          have hn8 : 0 ≤ mN (m1 72) ∧ mN (m1 72) ≤ 8 := hnr
          rw [g0 70 (by omega), f4, ec, w32_id (z := mN (m1 72) + 1) (by omega) (by omega)]
          refine ih (c + 1) _ X (by omega) (by omega) (fun z hz => by rw [up_ne (by omega), g0 z (by omega)]; exact f0 z hz) ?_ ?_ (by rw [up_ne (by omega), up_ne (by omega)]; exact g2) (by rw [up_same, up_ne (by omega), hN])
          · rw [up_ne (by omega)]; exact mV_E (fun z z1 z2 z3 => (hw z z1 z2).mpr z3) (fun _ _ _ _ _ _ _ k => k) g1.1
          · rw [up_ne (by omega)]; exact ⟨fun z z1 z2 z3 => hC2.1 z z1 z2 ((hw z z1 z2).mp z3), hC2.2⟩
        · rw [ky] at g4
          have hC2 := mFail_C f2 g3 g4
          rw [ec]
          refine ih (c + 1) m' (fun z => X z ∨ X0 z) (by omega) (by omega) (fun z hz => by rw [g0 z (by omega)]; exact f0 z hz) ?_ ?_ (by rw [g1, g2]; exact f3) (by rw [g0 70 (by omega), g2]; exact f4)
          · rw [g2]; exact mV_E (fun z z1 z2 z3 => ⟨z3.1, by have := z3.2; omega⟩) (fun _ _ _ _ _ _ _ k => k) f1
          · rw [g2]; exact ⟨fun z z1 z2 z3 => hC2.1 z z1 z2 ((hw z z1 z2).mp z3), hC2.2⟩
      · rw [bt_shr (by omega)] at q
        have hw : ∀ z : Int, 0 ≤ z → z < 8 → ((bt x z = true ∧ z < c + 1) ↔ (bt x z = true ∧ z < c)) := fun z z1 z2 => ⟨fun g => ⟨g.1, by
          have : z ≠ c := by rintro rfl; exact q g.1
          have := g.2
          omega⟩, fun g => ⟨g.1, by have := g.2; omega⟩⟩
        rw [ec]
        exact ih (c + 1) m1 X (by omega) (by omega) f0 (mV_E (fun z z1 z2 z3 => (hw z z1 z2).mpr z3) (fun _ _ _ _ _ _ _ k => k) f1) ⟨fun z z1 z2 z3 => f2.1 z z1 z2 ((hw z z1 z2).mp z3), f2.2⟩ f3 f4
  refine gX2_find (d + 2) 8 y x m Q (jK_deep (show d + 1 ≤ d + 2 by omega) (s_fillI (by omega) (jK_deep (show d + 1 ≤ d + 2 by omega) (s_fillI (by omega) ?_))))
  have e71 : ∀ z : Int, 0 ≤ z → z < 8 → jFil (jFil m 71 8 (-1)) 72 8 (-1) 71 z = -1 := fun z z1 z2 => by unfold jFil; rw [if_neg (by omega), if_pos ⟨rfl, z1, z2⟩]
  have e72 : ∀ z : Int, 0 ≤ z → z < 8 → jFil (jFil m 71 8 (-1)) 72 8 (-1) 72 z = -1 := fun z z1 z2 => by unfold jFil; rw [if_pos ⟨rfl, z1, z2⟩]
  have eO : ∀ q, q ≠ 71 → q ≠ 72 → jFil (jFil m 71 8 (-1)) 72 8 (-1) q = m q := fun q h1 h2 => by funext z; unfold jFil; rw [if_neg (by rintro ⟨g, _⟩; exact h2 g), if_neg (by rintro ⟨g, _⟩; exact h1 g)]
  generalize jFil (jFil m 71 8 (-1)) 72 8 (-1) = m0 at *
  have u : ∀ q, q ≠ 70 → jUp m0 70 0 0 q = m0 q := fun q hq => up_ne hq
  refine L23 8 0 _ (fun _ => False) (by omega) (by omega) (fun q hq => by rw [u q (by omega)]; exact eO q (by omega) (by omega)) ?_ ?_ ?_ ?_
  · rw [u 72 (by omega)]
    exact ⟨fun j j1 j2 => Or.inl (e72 j j1 j2), fun j j' j1 j2 _ _ _ hne => absurd (e72 j j1 j2) hne⟩
  · exact ⟨fun z z1 z2 z3 => by have := z3.2; omega, fun _ _ k => k.elim⟩
  · rw [u 71 (by omega), u 72 (by omega)]
    intro c c1 c2
    left
    refine ⟨e71 c c1 c2, ?_⟩
    rintro ⟨j, j1, j2, j3⟩
    rw [e72 j j1 j2] at j3
    omega
  · rw [up_same, u 72 (by omega)]
    unfold mN
    rw [pcn_ext (g := fun _ => false) (fun z z1 z2 => by rw [e72 z z1 z2]; rfl)]
    rfl

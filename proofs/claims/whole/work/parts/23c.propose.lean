/-! the class's NextOnes: a part is proposed -/
theorem s_propose {d : Nat} {base t S w : Int} {x : List Int} {m m1 : jM} {Q : Int → jM → Prop} (hW : pW 0 54 m) (hB : dpB (pO (m 57)) (rB (m 56))) (hf : ∀ q, q < 81 → m1 q = m q) (hw : m1 81 3 = w) (hw0 : 0 ≤ w ∧ w < 97) (ht : 0 ≤ t ∧ (t < m 54 1 ∨ (t = 0 ∧ S = 0)))
    (hx : 0 < t → (0 ≤ base ∧ base < 12) ∧ x ∈ mts (pO (m 57)) (bt (m 54 0)) 8 0 ∧ ∀ c : Int, 0 ≤ c → c < 8 → m1 83 (8 * base + c) = x.getD c.toNat (-1))
    (h1 : ∀ m2 : jM, (∀ l ∈ mts (pO (m 57)) (bt (m 54 0)) 8 0, ¬ wP (m 54 1) (m 55) x t S l) → (∀ q, q ≠ 85 → m2 q = m1 q) → (∀ y : Int, (y < 8 * w ∨ 8 * w + 8 ≤ y) → m2 85 y = m1 85 y) → Q 0 m2)
    (h2 : ∀ (m2 : jM) (z : List Int), z ∈ mts (pO (m 57)) (bt (m 54 0)) 8 0 → wP (m 54 1) (m 55) x t S z → (∀ l ∈ mts (pO (m 57)) (bt (m 54 0)) 8 0, wP (m 54 1) (m 55) x t S l → l = z ∨ ltk (tot (rB (m 56)) 8) z l) → (∀ q, q ≠ 81 → q ≠ 84 → q ≠ 85 → q ≠ 86 → q ≠ 87 → m2 q = m1 q) → (∀ j, j ≠ 3 → m2 81 j = m1 81 j) → m2 81 3 = w + 1 → (∀ y, y ≠ w → m2 84 y = m1 84 y ∧ m2 86 y = m1 86 y ∧ m2 87 y = m1 87 y) → (∀ y : Int, (y < 8 * w ∨ 8 * w + 8 ≤ y) → m2 85 y = m1 85 y) → m2 84 w = tot (rB (m 56)) 8 z → m2 86 w = t → m2 87 w = S → (∀ c : Int, 0 ≤ c → c < 8 → m2 85 (8 * w + c) = z.getD c.toNat (-1)) → Q 0 m2) :
    jK (d + 2) zX3_propose [jO 3 81, jO 4 54, jI base, jI t, jI S] m1 Q := by
  obtain ⟨hP, hE⟩ := id hW
  have hm1 : 0 ≤ m 54 1 ∧ m 54 1 ≤ 8 := by rw [hP.1]; exact pcn_nn _ _
  have e8 : w32 (w * 8) = 8 * w := by rw [w32_id (by omega) (by omega)]; omega
  -- what a state of the loop keeps
  generalize hL : mts (pO (m 57)) (bt (m 54 0)) 8 0 = L at *
  -- a judge is taken
  have tail : ∀ (i u s j : Int) (pre : List Int) (m2 : jM), 0 ≤ i → i < m 54 1 → nA m i pre u s → (∀ q, q ≠ 85 → m2 q = m1 q) → (∀ y : Int, (y < 8 * w ∨ 8 * w + 8 ≤ y) → m2 85 y = m1 85 y) → (∀ c : Int, 0 ≤ c → c < 8 → m2 85 (8 * w + c) = pre.getD c.toNat (-1)) → (0 ≤ j ∧ j < 8) → bt u j = false → bt (m 57 (m 55 i)) j = true →
      (∀ (e : Nat) (m3 : jM), (7 - m 55 i).toNat = pLv 54 m (i + 1) + e → (∀ c' : Int, 8 - (((pLv 54 m (i + 1) : Nat) : Int) + e) ≤ c' → c' < 8 - (pLv 54 m (i + 1) : Nat) → bt (m 54 0) c' = false) → nA m (i + 1) (pre ++ j :: List.replicate e (-1)) (iOr u (iShl 1 j)) (s + m 56 (8 * j + m 55 i)) → (∀ q, q ≠ 85 → m3 q = m1 q) → (∀ y : Int, (y < 8 * w ∨ 8 * w + 8 ≤ y) → m3 85 y = m1 85 y) → (∀ c : Int, 0 ≤ c → c < 8 → m3 85 (8 * w + c) = (pre ++ j :: List.replicate e (-1)).getD c.toNat (-1)) → aX3_propose_55 (d + 1) base t S (8 * w) (iOr u (iShl 1 j)) (s + m 56 (8 * j + m 55 i)) (i + 1) m3 Q) →
      (0 ≤ w32 (8 * w + m 55 i) ∧ w32 (8 * w + m 55 i) < 776) ∧ (0 ≤ w32 (w32 (j * 8) + m 55 i) ∧ w32 (w32 (j * 8) + m 55 i) < 64) ∧ aX3_propose_55 (d + 1) base t S (8 * w) (iOr u (iShl 1 j)) (w64 (s + jUp m2 85 (w32 (8 * w + m 55 i)) j 56 (w32 (w32 (j * 8) + m 55 i)))) (w32 (i + 1)) (jUp m2 85 (w32 (8 * w + m 55 i)) j) Q := by
    intro i u s j pre m2 hi0 hi hA f0 f1 f2 hj hu hb k
    obtain ⟨b1, b2, b3, e, ee1, ee2⟩ := nA_lv hP hi0 hi
    have hA2 := nA_s hP hB hi0 hi rfl hA hj hu hb ee1 ee2
    have hbj : 0 ≤ m 56 (8 * j + m 55 i) ∧ m 56 (8 * j + m 55 i) ≤ 1000000000 := hB j (m 55 i) hj.1 hj.2 b1.1 b1.2 hb
    have hs := hA.2.2.2.2.1
    have hpl : pre.length = (m 55 i).toNat := by rw [hA.1.2, b3]; omega
    have e1 : w32 (8 * w + m 55 i) = 8 * w + m 55 i := w32_id (by omega) (by omega)
    have e2 : w32 (w32 (j * 8) + m 55 i) = 8 * j + m 55 i := by simp (disch := omega) only [w32_id]; omega
    have e3 : w32 (i + 1) = i + 1 := w32_id (by omega) (by omega)
    have k56 : jUp m2 85 (8 * w + m 55 i) j 56 = m 56 := by rw [up_ne (by omega), f0 56 (by omega), hf 56 (by omega)]
    rw [e1, e2, e3, k56, w64_id (by omega) (by omega)]
    refine ⟨by omega, by omega, k e _ ee1 ee2 hA2 (fun q hq => by rw [up_ne hq]; exact f0 q hq) (fun y hy => by rw [up_oth (by omega)]; exact f1 y hy) (fun c c0 c8 => ?_)⟩
    rw [up_eq, pre_get hpl b1.1 c0]
    by_cases h3 : c = m 55 i
    · rw [if_pos (by omega), if_neg (by omega), if_pos h3]
    · rw [if_neg (by omega), f2 c c0 c8]
      by_cases h4 : c < m 55 i
      · rw [if_pos h4]
      · rw [if_neg h4, if_neg h3]
        exact pre_beyond (by omega)
  -- behind case t: the first of the least leads
  have L2 : ∀ (r : Nat) (i u s Si : Int) (pre : List Int) (m2 : jM), i + r = m 54 1 → t ≤ i → ((i = t ∧ Si = S) ∨ (t < i ∧ Si = 0)) → nA m i pre u s → (∀ q, q ≠ 85 → m2 q = m1 q) → (∀ y : Int, (y < 8 * w ∨ 8 * w + 8 ≤ y) → m2 85 y = m1 85 y) → (∀ c : Int, 0 ≤ c → c < 8 → m2 85 (8 * w + c) = pre.getD c.toNat (-1)) →
      (∀ r ∈ mts (pO (m 57)) (bt (m 54 0)) (pLv 54 m i) u, bt Si (r.getD 0 (-1)) = false → wP (m 54 1) (m 55) x t S (pre ++ r)) →
      (∀ l ∈ L, wP (m 54 1) (m 55) x t S l → ∃ r ∈ mts (pO (m 57)) (bt (m 54 0)) (pLv 54 m i) u, bt Si (r.getD 0 (-1)) = false ∧ (pre ++ r = l ∨ ltk (tot (rB (m 56)) 8) (pre ++ r) l)) →
      aX3_propose_55 (d + 1) base t S (8 * w) u s i m2 Q := by
    intro r
    induction r with
    | zero =>
      intro i u s Si pre m2 hir hti hS hA f0 f1 f2 c1 c2
      have k54 : m2 54 = m 54 := by rw [f0 54 (by omega), hf 54 (by omega)]
      have k81 : m2 81 = m1 81 := f0 81 (by omega)
      have w2 : m2 81 3 = w := by rw [k81, hw]
      have hS0 : Si = 0 := by omega
      have elv : pLv 54 m i = 0 := by unfold pLv; rw [if_neg (by omega)]
      have hA5 := hA.2.2.2.2.2.1
      have hA6 := hA.2.2.2.2.2.2
      rw [elv] at c1 c2 hA5 hA6
      have hmem : ([] : List Int) ∈ mts (pO (m 57)) (bt (m 54 0)) 0 u := List.mem_singleton.mpr rfl
      have d1 := c1 [] hmem (by rw [hS0, bt_0])
      have d2 := hA5 [] hmem
      have d3 := hA6 [] hmem
      rw [List.append_nil] at d1 d2 d3
      have d4 : tot (rB (m 56)) 8 pre = s := by rw [d3]; show s + 0 = s; omega
      have ew : w32 (w + 1) = w + 1 := w32_id (by omega) (by omega)
      refine gX3_propose_55 (d + 1) base t S (8 * w) u s i m2 Q ⟨fun q => by rw [k54] at q; omega, fun _ => ?_⟩
      simp only [up_ne (show ¬ (81 : Int) = 84 by omega), up_ne (show ¬ (81 : Int) = 86 by omega), up_ne (show ¬ (81 : Int) = 87 by omega), w2, ew]
      refine ⟨hw0, hw0, hw0, h2 _ pre (by rw [← hL]; exact d2) d1 (fun l hl hl2 => ?_) (fun q g1 g2 g3 g4 g5 => by rw [up_ne g1, up_ne g5, up_ne g4, up_ne g2]; exact f0 q g3) (fun j hj => by rw [up_oth hj, up_ne (by omega), up_ne (by omega), up_ne (by omega), k81]) up_same (fun y hy => ⟨?_, ?_, ?_⟩) (fun y hy => ?_) ?_ ?_ ?_ (fun c g1 g2 => ?_)⟩
      · obtain ⟨r, hr, _, hr2⟩ := c2 l hl hl2
        have : r = [] := List.mem_singleton.mp hr
        rw [this, List.append_nil] at hr2
        exact hr2.imp (fun g => g.symm) id
      · rw [up_ne (by omega), up_ne (by omega), up_ne (by omega), up_oth hy, f0 84 (by omega)]
      · rw [up_ne (by omega), up_ne (by omega), up_oth hy, up_ne (by omega), f0 86 (by omega)]
      · rw [up_ne (by omega), up_oth hy, up_ne (by omega), up_ne (by omega), f0 87 (by omega)]
      · rw [up_ne (by omega), up_ne (by omega), up_ne (by omega), up_ne (by omega)]; exact f1 y hy
      · rw [up_ne (by omega), up_ne (by omega), up_ne (by omega), up_same, d4]
      · rw [up_ne (by omega), up_ne (by omega), up_same]
      · rw [up_ne (by omega), up_same]
      · rw [up_ne (by omega), up_ne (by omega), up_ne (by omega), up_ne (by omega)]; exact f2 c g1 g2
    | succ r ih =>
      intro i u s Si pre m2 hir hti hS hA f0 f1 f2 c1 c2
      have hi : i < m 54 1 := by omega
      have hi0 : 0 ≤ i := by omega
      have k54 : m2 54 = m 54 := by rw [f0 54 (by omega), hf 54 (by omega)]
      have k55 : m2 55 = m 55 := by rw [f0 55 (by omega), hf 55 (by omega)]
      have k56 : m2 56 = m 56 := by rw [f0 56 (by omega), hf 56 (by omega)]
      have k57 : m2 57 = m 57 := by rw [f0 57 (by omega), hf 57 (by omega)]
      have k58 : m2 58 = m 58 := by rw [f0 58 (by omega), hf 58 (by omega)]
      have k59 : m2 59 = m 59 := by rw [f0 59 (by omega), hf 59 (by omega)]
      have kW : pW 0 54 m2 := by
        unfold pW plL pEn pLv at hW ⊢
        simp only [show (54 : Int) + 1 = 55 from rfl, show (54 : Int) + 2 = 56 from rfl, show (54 : Int) + 3 = 57 from rfl, show (54 : Int) + 4 = 58 from rfl, show (54 : Int) + 5 = 59 from rfl] at hW ⊢
        rw [k54, k55, k56, k57, k58, k59]
        exact hW
      have kLv : pLv 54 m2 = pLv 54 m := by
        funext y; unfold pLv; rw [k54, show m2 (54 + 1) = m (54 + 1) from k55]
      have hpc := hA.2.2.2.1
      have lead : ∀ K : Int → jM → Prop, ((∀ l ∈ L, ¬ wP (m 54 1) (m 55) x t S l) → K (-1) m2) → (∀ j : Int, (0 ≤ j ∧ j < 8) → bt u j = false → bt (m 57 (m 55 i)) j = true → (∀ e : Nat, (7 - m 55 i).toNat = pLv 54 m (i + 1) + e → (∀ c' : Int, 8 - (((pLv 54 m (i + 1) : Nat) : Int) + e) ≤ c' → c' < 8 - (pLv 54 m (i + 1) : Nat) → bt (m 54 0) c' = false) →
          (∀ r ∈ mts (pO (m 57)) (bt (m 54 0)) (pLv 54 m (i + 1)) (iOr u (iShl 1 j)), wP (m 54 1) (m 55) x t S ((pre ++ j :: List.replicate e (-1)) ++ r)) ∧ ∀ l ∈ L, wP (m 54 1) (m 55) x t S l → ∃ r ∈ mts (pO (m 57)) (bt (m 54 0)) (pLv 54 m (i + 1)) (iOr u (iShl 1 j)), (pre ++ j :: List.replicate e (-1)) ++ r = l ∨ ltk (tot (rB (m 56)) 8) ((pre ++ j :: List.replicate e (-1)) ++ r) l) → K j m2) →
          jK (d + 1) zX4_firstLead [jO 4 54, jI u, jI (m2 55 i), jI Si] m2 K := by
        intro K kn ky
        obtain ⟨b1, b2, b3, _⟩ := nA_lv hP hi0 hi
        rw [k55]
        refine s_firstLead (T := fun j => (dpt 0 (pO (m 57)) (rB (m 56)) (bt (m 54 0)) (pLv 54 m (i + 1)) (iOr u (iShl 1 j))).1) kW (by rw [show m2 (54 + 3) = m 57 from k57, show m2 (54 + 2) = m 56 from k56]; exact hB) hA.2.1 (by rw [k54]; exact hA.2.2.1) (by rw [k54, hpc]; exact hi) (by rw [hpc, show m2 (54 + 1) = m 55 from k55]) (fun j => by rw [show m2 (54 + 3) = m 57 from k57, show m2 (54 + 2) = m 56 from k56, k54, kLv, hpc]) (fun g => ?_) (fun j j1 j2 j3 j4 j5 => ?_)
        · rw [show m2 (54 + 3) = m 57 from k57] at g
          refine kn (fun l hl hD => ?_)
          obtain ⟨r, hr, hrS, _⟩ := c2 l hl hD
          obtain ⟨e, ee1, ee2⟩ := (nA_lv hP hi0 hi).2.2.2
          rw [b3, mts_dec b1 b2 ee1 ee2] at hr
          obtain ⟨j, r', hj, g1, g2, g3, rfl⟩ := hr
          have hz := g j hj.1 hj.2 ⟨g2, g1, hrS⟩
          have hA2 := nA_s hP hB hi0 hi rfl hA hj g1 g2 ee1 ee2
          rcases lc_mts (C := bt (m 54 0)) hB _ hA2.1.1 _ (mk_or1 hA.2.1 hj) with ⟨g4, _⟩ | g4
          · rw [g4] at g3; cases g3
          · have := g4.1
            rw [hz] at this
            omega
        · rw [show m2 (54 + 3) = m 57 from k57] at j3 j5
          rw [show m2 (54 + 2) = m 56 from k56] at j5
          refine ky j ⟨j1, j2⟩ j3.2.1 j3.1 (fun e ee1 ee2 => ?_)
          have := ld_step (T := fun j => (dpt 0 (pO (m 57)) (rB (m 56)) (bt (m 54 0)) (pLv 54 m (i + 1)) (iOr u (iShl 1 j))).1) (D := wP (m 54 1) (m 55) x t S) hP hB hi0 hi rfl hA (fun _ => rfl) ee1 ee2 ⟨j1, j2⟩ j3 j4 j5 c1 (by rw [hL]; exact c2)
          rw [hL] at this
          exact this
      -- what follows the call
      have go : ∀ j : Int, (0 ≤ j ∧ j < 8) → bt u j = false → bt (m 57 (m 55 i)) j = true → (∀ e : Nat, (7 - m 55 i).toNat = pLv 54 m (i + 1) + e → (∀ c' : Int, 8 - (((pLv 54 m (i + 1) : Nat) : Int) + e) ≤ c' → c' < 8 - (pLv 54 m (i + 1) : Nat) → bt (m 54 0) c' = false) →
          (∀ r ∈ mts (pO (m 57)) (bt (m 54 0)) (pLv 54 m (i + 1)) (iOr u (iShl 1 j)), wP (m 54 1) (m 55) x t S ((pre ++ j :: List.replicate e (-1)) ++ r)) ∧ ∀ l ∈ L, wP (m 54 1) (m 55) x t S l → ∃ r ∈ mts (pO (m 57)) (bt (m 54 0)) (pLv 54 m (i + 1)) (iOr u (iShl 1 j)), (pre ++ j :: List.replicate e (-1)) ++ r = l ∨ ltk (tot (rB (m 56)) 8) ((pre ++ j :: List.replicate e (-1)) ++ r) l) →
          (0 ≤ w32 (8 * w + m 55 i) ∧ w32 (8 * w + m 55 i) < 776) ∧ (0 ≤ w32 (w32 (j * 8) + m 55 i) ∧ w32 (w32 (j * 8) + m 55 i) < 64) ∧ aX3_propose_55 (d + 1) base t S (8 * w) (iOr u (iShl 1 j)) (w64 (s + jUp m2 85 (w32 (8 * w + m 55 i)) j 56 (w32 (w32 (j * 8) + m 55 i)))) (w32 (i + 1)) (jUp m2 85 (w32 (8 * w + m 55 i)) j) Q := by
        intro j hj hu hb hn
        refine tail i u s j pre m2 hi0 hi hA f0 f1 f2 hj hu hb (fun e m3 ee1 ee2 hA2 g0 g1 g2 => ?_)
        obtain ⟨n1, n2⟩ := hn e ee1 ee2
        refine ih (i + 1) _ _ 0 _ m3 (by omega) (by omega) (Or.inr ⟨by omega, rfl⟩) hA2 g0 g1 g2 (fun r hr _ => n1 r hr) (fun l hl hD => ?_)
        obtain ⟨r, hr, hr2⟩ := n2 l hl hD
        exact ⟨r, hr, bt_0 _, hr2⟩
      have stop : (∀ l ∈ L, ¬ wP (m 54 1) (m 55) x t S l) → Q 0 m2 := fun g => h1 m2 g f0 f1
      have hi8 : 0 ≤ i ∧ i < 8 := by omega
      rcases hS with ⟨hit, hSi⟩ | ⟨hit, hSi⟩
      · subst hSi
        refine gX3_propose_55 (d + 1) base t Si (8 * w) u s i m2 Q ⟨fun _ => ⟨hi8, fun _ => ⟨fun q => by omega, fun _ => lead _ (fun g => ⟨fun _ => stop g, fun q => absurd rfl q⟩) (fun j hj hu hb hn => ⟨fun q => by omega, fun _ => ?_⟩)⟩, fun q => absurd hit q⟩, fun q => by rw [k54] at q; omega⟩
        rw [k55]
        exact go j hj hu hb hn
      · subst hSi
        refine gX3_propose_55 (d + 1) base t S (8 * w) u s i m2 Q ⟨fun _ => ⟨hi8, fun q => by omega, fun _ => ⟨fun q => by omega, fun _ => lead _ (fun g => ⟨fun _ => stop g, fun q => absurd rfl q⟩) (fun j hj hu hb hn => ⟨fun q => by omega, fun _ => ?_⟩)⟩⟩, fun q => by rw [k54] at q; omega⟩
        rw [k55]
        exact go j hj hu hb hn
  -- up to case t: as in x
  have L1 : ∀ (r : Nat) (i u s : Int) (pre : List Int) (m2 : jM), i + r = t → 0 ≤ i → nA m i pre u s → (0 < t → ∃ rx ∈ mts (pO (m 57)) (bt (m 54 0)) (pLv 54 m i) u, x = pre ++ rx) → (∀ v : Int, 0 ≤ v → v < i → (m 55 v).toNat < pre.length) →
      (∀ l ∈ L, (∀ v : Int, 0 ≤ v → v < i → l.getD (m 55 v).toNat (-1) = x.getD (m 55 v).toNat (-1)) → ∃ r ∈ mts (pO (m 57)) (bt (m 54 0)) (pLv 54 m i) u, l = pre ++ r) →
      (∀ q, q ≠ 85 → m2 q = m1 q) → (∀ y : Int, (y < 8 * w ∨ 8 * w + 8 ≤ y) → m2 85 y = m1 85 y) → (∀ c : Int, 0 ≤ c → c < 8 → m2 85 (8 * w + c) = pre.getD c.toNat (-1)) →
      aX3_propose_55 (d + 1) base t S (8 * w) u s i m2 Q := by
    intro r
    induction r with
    | zero =>
      intro i u s pre m2 hir hi0 hA hxx hlt hal f0 f1 f2
      have hit : i = t := by omega
      subst hit
      have hhd : ∀ r : List Int, i < m 54 1 → (pre ++ r).getD (m 55 i).toNat (-1) = r.getD 0 (-1) := by
        intro r hi
        obtain ⟨b1, b2, b3, _⟩ := nA_lv hP hi0 hi
        exact app_at (by rw [hA.1.2, b3]; omega)
      refine L2 (m 54 1 - i).toNat i u s S pre m2 (by omega) (Int.le_refl _) (Or.inl ⟨rfl, rfl⟩) hA f0 f1 f2 (fun r hr hrS => ⟨fun v v1 v2 => ?_, fun hi => ?_⟩) (fun l hl hD => ?_)
      · obtain ⟨rx, _, hrx⟩ := hxx (by omega)
        rw [hrx, app_lt (hlt v v1 v2), app_lt (hlt v v1 v2)]
      · rw [hhd r hi]; exact hrS
      · obtain ⟨r, hr, rfl⟩ := hal l hl hD.1
        refine ⟨r, hr, ?_, Or.inl rfl⟩
        by_cases hi : i < m 54 1
        · have := hD.2 hi
          rw [hhd r hi] at this
          exact this
        · have : S = 0 := by omega
          rw [this, bt_0]
    | succ r ih =>
      intro i u s pre m2 hir hi0 hA hxx hlt hal f0 f1 f2
      have hi : i < m 54 1 := by omega
      have k54 : m2 54 = m 54 := by rw [f0 54 (by omega), hf 54 (by omega)]
      have k55 : m2 55 = m 55 := by rw [f0 55 (by omega), hf 55 (by omega)]
      obtain ⟨b1, b2, b3, _⟩ := nA_lv hP hi0 hi
      have hpl : pre.length = (m 55 i).toNat := by rw [hA.1.2, b3]; omega
      obtain ⟨y1, y2, y3⟩ := hx (by omega)
      obtain ⟨rx, hrx, hxe⟩ := hxx (by omega)
      have ej : m2 83 (w32 (w32 (base * 8) + m2 55 i)) = x.getD (m 55 i).toNat (-1) := by
        rw [k55, show w32 (w32 (base * 8) + m 55 i) = 8 * base + m 55 i by simp (disch := omega) only [w32_id]; omega, f0 83 (by omega)]
        exact y3 _ b1.1 b1.2
      have eb : 0 ≤ w32 (w32 (base * 8) + m2 55 i) ∧ w32 (w32 (base * 8) + m2 55 i) < 96 := by
        rw [k55, show w32 (w32 (base * 8) + m 55 i) = 8 * base + m 55 i by simp (disch := omega) only [w32_id]; omega]
        omega
      refine gX3_propose_55 (d + 1) base t S (8 * w) u s i m2 Q ⟨fun _ => ⟨by omega, fun q => by omega, fun _ => ⟨fun _ => ⟨eb, fun q => ?_, fun _ => ?_⟩, fun q => by omega⟩⟩, fun q => by rw [k54] at q; omega⟩
      · have hin := mts_in (by rw [hL]; exact y2) b1.1 b1.2 b2
        rw [ej] at q
        omega
      · rw [ej, k55]
        have hxj : x.getD (m 55 i).toNat (-1) = rx.getD 0 (-1) := by rw [hxe]; exact app_at hpl
        generalize x.getD (m 55 i).toNat (-1) = j at *
        obtain ⟨e0, ee1, ee2⟩ := (nA_lv hP hi0 hi).2.2.2
        have hrx' := hrx
        rw [b3, mts_dec b1 b2 ee1 ee2] at hrx'
        obtain ⟨j', rx', hj', g1, g2, g3, g4⟩ := hrx'
        have hjj : j = j' := by rw [hxj, g4]; rfl
        subst hjj
        refine tail i u s j pre m2 hi0 hi hA f0 f1 f2 hj' g1 g2 (fun e m3 w1 w2 hA2 n0 n1 n2 => ?_)
        have he : e = e0 := by omega
        subst he
        have app : ∀ r : List Int, (pre ++ j :: List.replicate e (-1)) ++ r = pre ++ j :: (List.replicate e (-1) ++ r) := fun r => by
          rw [List.append_assoc, List.cons_append]
        refine ih (i + 1) _ _ _ m3 (by omega) (by omega) hA2 (fun _ => ⟨rx', g3, by rw [app, hxe, g4]⟩) (fun v v1 v2 => ?_) (fun l hl hag => ?_) n0 n1 n2
        · rw [List.length_append, List.length_cons]
          by_cases hv : v = i
          · rw [hv]; omega
          · have := hlt v v1 (by omega); omega
        · obtain ⟨r2, hr2, hl2⟩ := hal l hl (fun v v1 v2 => hag v v1 (by omega))
          have hli := hag i hi0 (by omega)
          rw [b3, mts_dec b1 b2 ee1 ee2] at hr2
          obtain ⟨j2, r3, hj2, z1, z2, z3, z4⟩ := hr2
          have hj3 : j2 = j := by
            rw [hl2, app_at hpl, z4] at hli
            rw [hxe, app_at hpl, ← hxj] at hli
            exact hli
          subst hj3
          exact ⟨r3, z3, by rw [app, hl2, z4]⟩
  -- the row is cleared first
  have L0 : ∀ (r : Nat) (c : Int) (m2 : jM), c + r = 8 → 0 ≤ c → (∀ q, q ≠ 85 → m2 q = m1 q) → (∀ y : Int, (y < 8 * w ∨ 8 * w + 8 ≤ y) → m2 85 y = m1 85 y) → (∀ c' : Int, 0 ≤ c' → c' < c → m2 85 (8 * w + c') = -1) → aX3_propose_22 (d + 1) base t S (8 * w) c m2 Q := by
    intro r
    induction r with
    | zero =>
      intro c m2 hc hc0 f0 f1 f2
      refine gX3_propose_22 (d + 1) base t S (8 * w) c m2 Q ⟨fun q => by omega, fun _ => ?_⟩
      obtain ⟨e, hA, hal⟩ := nA_0 hP
      rw [hL] at hal
      refine L1 t.toNat 0 0 0 (List.replicate e (-1)) m2 (by omega) (Int.le_refl _) hA (fun g => hal x (hx g).2.1) (fun v v1 v2 => by omega) (fun l hl _ => hal l hl) f0 f1 (fun c' g1 g2 => ?_)
      rw [f2 c' g1 (by omega), List.getD_eq_getElem?_getD, List.getElem?_replicate]
      split <;> rfl
    | succ r ih =>
      intro c m2 hc hc0 f0 f1 f2
      have e1 : w32 (8 * w + c) = 8 * w + c := w32_id (by omega) (by omega)
      have e2 : w32 (c + 1) = c + 1 := w32_id (by omega) (by omega)
      refine gX3_propose_22 (d + 1) base t S (8 * w) c m2 Q ⟨fun _ => ⟨by rw [e1]; omega, ?_⟩, fun q => by omega⟩
      rw [e1, e2]
      refine ih (c + 1) _ (by omega) (by omega) (fun q hq => by rw [up_ne hq]; exact f0 q hq) (fun y hy => by rw [up_oth (by omega)]; exact f1 y hy) (fun c' g1 g2 => ?_)
      rw [up_eq]
      split
      · rfl
      · exact f2 c' g1 (by omega)
  refine gX3_propose (d + 1) base t S m1 Q ⟨fun _ => ?_, fun q => by rw [hw] at q; omega⟩
  rw [hw, e8]
  exact L0 8 0 m1 (by omega) (Int.le_refl _) (fun _ _ => rfl) (fun _ _ => rfl) (fun c' g1 g2 => by omega)

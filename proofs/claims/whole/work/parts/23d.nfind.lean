/-! the class's NextOnes: which part is first, keep, drop, split, find -/
def nX (m : jM) (i : Int) : List Int := ls8 (fun c => m 85 (8 * i + c))
def nP (m m1 : jM) (i : Int) (l : List Int) : Prop := wP (m 54 1) (m 55) (nX m1 i) (m1 86 i) (m1 87 i) l
def nM (m m1 : jM) (w : Int) : Prop := ∀ i : Int, 0 ≤ i → i < w → m1 84 i = tot (rB (m 56)) 8 (nX m1 i) ∧ 0 ≤ m1 86 i ∧ (m1 86 i < m 54 1 ∨ (m1 86 i = 0 ∧ m1 87 i = 0))
theorem nX_drop (m : jM) (i : Int) {c : Nat} (h : c < 8) : (nX m i).drop c = m 85 (8 * i + c) :: (nX m i).drop (c + 1) := ls8_drop (g := fun c => m 85 (8 * i + c)) h
theorem nX_cg {m m' : jM} {i i' : Int} (h : ∀ c : Int, 0 ≤ c → c < 8 → m 85 (8 * i + c) = m' 85 (8 * i' + c)) : nX m i = nX m' i' := ls8_cg h
theorem nX_get {m : jM} {i c : Int} (h0 : 0 ≤ c) (h8 : c < 8) : (nX m i).getD c.toNat (-1) = m 85 (8 * i + c) := ls8_get (g := fun c => m 85 (8 * i + c)) h0 h8
theorem s_isAhead {d : Nat} {a b : Int} {m : jM} {Q : Int → jM → Prop} (ha : 0 ≤ a ∧ a < 97) (hb : 0 ≤ b ∧ b < 97) (h1 : lxl (nX m a) (nX m b) → Q 1 m) (h0 : ¬ lxl (nX m a) (nX m b) → Q 0 m) : jK (d + 1) zX3_isAhead [jO 3 81, jI a, jI b] m Q := by
  have loop : ∀ (r c : Nat) (j : Int), c + r = 8 → j = c → (lxl (nX m a) (nX m b) ↔ lxl ((nX m a).drop c) ((nX m b).drop c)) → aX3_isAhead_2 d a b j m Q := by
    intro r
    induction r with
    | zero =>
      intro c j hc hj hI
      refine gX3_isAhead_2 d a b j m Q ⟨fun q => by omega, fun _ => h0 ?_⟩
      rw [hI, show c = 8 by omega]
      exact id
    | succ r ih =>
      intro c j hc hj hI
      have e1 : w32 (w32 (a * 8) + j) = 8 * a + j := by simp (disch := omega) only [w32_id]; omega
      have e2 : w32 (w32 (b * 8) + j) = 8 * b + j := by simp (disch := omega) only [w32_id]; omega
      have ej : w32 (j + 1) = j + 1 := w32_id (by omega) (by omega)
      rw [nX_drop m a (show c < 8 by omega), nX_drop m b (show c < 8 by omega), ← hj] at hI
      have hI2 : lxl (nX m a) (nX m b) ↔ (m 85 (8 * a + j) < m 85 (8 * b + j) ∨ (m 85 (8 * a + j) = m 85 (8 * b + j) ∧ lxl ((nX m a).drop (c + 1)) ((nX m b).drop (c + 1)))) := hI
      refine gX3_isAhead_2 d a b j m Q ⟨fun _ => ⟨by rw [e1]; omega, by rw [e2]; omega, fun q => ?_, fun q => ⟨fun q2 => h1 ?_, fun q2 => h0 ?_⟩⟩, fun q => by omega⟩
      · rw [e1, e2] at q
        rw [ej]
        refine ih (c + 1) (j + 1) (by omega) (by omega) ?_
        rw [hI2]
        exact ⟨fun g => by rcases g with g | g; omega; exact g.2, fun g => Or.inr ⟨q, g⟩⟩
      · rw [e1, e2] at q2
        exact hI2.mpr (Or.inl q2)
      · rw [e1, e2] at q q2
        rw [hI2]
        rintro (g | g)
        · exact q2 g
        · exact q g.1
  exact gX3_isAhead d a b m Q (loop 8 0 0 rfl rfl Iff.rfl)
theorem s_firstPart {d : Nat} {w : Int} {f : List Int → Int} {m : jM} {Q : Int → jM → Prop} (hw : m 81 3 = w) (hw0 : 0 < w ∧ w ≤ 97) (hs : ∀ i : Int, 0 ≤ i → i < w → m 84 i = f (nX m i)) (h : ∀ p : Int, 0 ≤ p → p < w → (∀ i : Int, 0 ≤ i → i < w → ¬ ltk f (nX m i) (nX m p)) → Q p m) : jK (d + 2) zX3_firstPart [jO 3 81] m Q := by
  have loop : ∀ (r : Nat) (p j : Int), 0 ≤ p → p < j → j + r = w → (∀ i : Int, 0 ≤ i → i < j → ¬ ltk f (nX m i) (nX m p)) → aX3_firstPart_4 (d + 1) p j m Q := by
    intro r
    induction r with
    | zero =>
      intro p j hp hpj hj hI
      refine gX3_firstPart_4 (d + 1) p j m Q ⟨fun q => by rw [hw] at q; omega, fun _ => ?_⟩
      exact h p hp (by omega) (fun i i1 i2 => hI i i1 (by omega))
    | succ r ih =>
      intro p j hp hpj hj hI
      have ej : w32 (j + 1) = j + 1 := w32_id (by omega) (by omega)
      have sj := hs j (by omega) (by omega)
      have sp := hs p hp (by omega)
      have bring : ltk f (nX m j) (nX m p) → aX3_firstPart_4 (d + 1) j (w32 (j + 1)) m Q := by
        intro g
        rw [ej]
        refine ih j (j + 1) (by omega) (by omega) (by omega) (fun i i1 i2 g2 => ?_)
        by_cases hi : i = j
        · rw [hi] at g2; exact ltk_irr f _ g2
        · exact hI i i1 (by omega) (ltk_tr g2 g)
      have stay : ¬ ltk f (nX m j) (nX m p) → aX3_firstPart_4 (d + 1) p (w32 (j + 1)) m Q := by
        intro g
        rw [ej]
        refine ih p (j + 1) hp (by omega) (by omega) (fun i i1 i2 => ?_)
        by_cases hi : i = j
        · rw [hi]; exact g
        · exact hI i i1 (by omega)
      refine gX3_firstPart_4 (d + 1) p j m Q ⟨fun _ => ⟨by omega, by omega, fun q => ?_, fun q => ⟨by omega, by omega, fun q2 => s_isAhead (by omega) (by omega) (fun g => ⟨fun q3 => by omega, fun _ => ?_⟩) (fun g => ⟨fun _ => ?_, fun q3 => absurd rfl q3⟩), fun q2 => ?_⟩⟩, fun q => by rw [hw] at q; omega⟩
      · rw [sj, sp] at q
        exact bring (Or.inl q)
      · rw [sj, sp] at q2
        exact bring (Or.inr ⟨q2, g⟩)
      · rw [sj, sp] at q2
        refine stay ?_
        rintro (g2 | g2)
        · omega
        · exact g g2.2
      · rw [sj, sp] at q q2
        refine stay ?_
        rintro (g2 | g2)
        · exact q g2
        · exact q2 g2.1
  refine gX3_firstPart (d + 1) m Q (loop (w - 1).toNat 0 1 (Int.le_refl _) (by omega) (by omega) (fun i i1 i2 => ?_))
  rw [show i = 0 by omega]
  exact ltk_irr f _
theorem nc_ne {m : jM} {a0 sp a1 dp n q : Int} (h : ¬ q = a1) : jCp m a0 sp a1 dp n q = m q := by
  funext j
  unfold jCp
  rw [if_neg (fun g => h g.1)]
theorem nc_at {m : jM} {a0 sp a1 dp n j : Int} : jCp m a0 sp a1 dp n a1 j = if dp ≤ j ∧ j < dp + n then m a0 (sp + (j - dp)) else m a1 j := by
  unfold jCp
  by_cases h : dp ≤ j ∧ j < dp + n
  · rw [if_pos ⟨rfl, h⟩, if_pos h]
  · rw [if_neg (fun g => h g.2), if_neg h]
theorem s_keepN {d : Nat} {p g : Int} {m : jM} {Q : Int → jM → Prop} (hp : 0 ≤ p ∧ p < 97) (hg : m 81 0 = g) (hg0 : 0 ≤ g ∧ g < 12)
    (h : ∀ m' : jM, (∀ q, q ≠ 81 → q ≠ 82 → q ≠ 83 → m' q = m q) → (∀ j, j ≠ 0 → m' 81 j = m 81 j) → m' 81 0 = g + 1 → m' 82 g = m 84 p → (∀ y, y ≠ g → m' 82 y = m 82 y) → (∀ c : Int, 0 ≤ c → c < 8 → m' 83 (8 * g + c) = m 85 (8 * p + c)) → (∀ y : Int, (y < 8 * g ∨ 8 * g + 8 ≤ y) → m' 83 y = m 83 y) → Q 0 m') : jK (d + 1) zX3_keep [jO 3 81, jI p] m Q := by
  have e1 : w32 (p * 8) = 8 * p := by rw [w32_id (by omega) (by omega)]; omega
  have e2 : w32 (g * 8) = 8 * g := by rw [w32_id (by omega) (by omega)]; omega
  have e3 : w32 (g + 1) = g + 1 := w32_id (by omega) (by omega)
  refine gX3_keep d p m Q ?_
  rw [nc_ne (show ¬ (81 : Int) = 83 by omega), up_ne (show ¬ (81 : Int) = 82 by omega), hg, e1, e2, e3]
  refine ⟨hp, hg0, by omega, h _ (fun q g1 g2 g3 => by rw [up_ne g1, nc_ne g3, up_ne g2]) (fun j hj => by rw [up_oth hj, nc_ne (by omega), up_ne (by omega)]) up_same ?_ (fun y hy => ?_) (fun c c0 c8 => ?_) (fun y hy => ?_)⟩
  · rw [up_ne (by omega), nc_ne (by omega), up_same]
  · rw [up_ne (by omega), nc_ne (by omega), up_oth hy]
  · rw [up_ne (by omega), nc_at, if_pos (by omega), up_ne (by omega), show 8 * p + (8 * g + c - 8 * g) = 8 * p + c by omega]
  · rw [up_ne (by omega), nc_at, if_neg (by omega), up_ne (by omega)]
theorem s_dropN {d : Nat} {p w : Int} {m : jM} {Q : Int → jM → Prop} (hp : 0 ≤ p ∧ p < w) (hw : m 81 3 = w) (hw0 : w ≤ 97)
    (h : ∀ m' : jM, (∀ q, q ≠ 81 → q ≠ 84 → q ≠ 85 → q ≠ 86 → q ≠ 87 → m' q = m q) → (∀ j, j ≠ 3 → m' 81 j = m 81 j) → m' 81 3 = w - 1 → (∀ i, m' 84 i = if i = p then m 84 (w - 1) else m 84 i) → (∀ i, m' 86 i = if i = p then m 86 (w - 1) else m 86 i) → (∀ i, m' 87 i = if i = p then m 87 (w - 1) else m 87 i) → (∀ i c : Int, 0 ≤ c → c < 8 → m' 85 (8 * i + c) = if i = p then m 85 (8 * (w - 1) + c) else m 85 (8 * i + c)) → Q 0 m') : jK (d + 1) zX3_drop [jO 3 81, jI p] m Q := by
  have e1 : w32 (p * 8) = 8 * p := by rw [w32_id (by omega) (by omega)]; omega
  have e2 : w32 ((w - 1) * 8) = 8 * (w - 1) := by rw [w32_id (by omega) (by omega)]; omega
  have e3 : w32 (w - 1) = w - 1 := w32_id (by omega) (by omega)
  refine gX3_drop d p m Q ?_
  simp only [up_ne (show ¬ (81 : Int) = 84 by omega), up_ne (show ¬ (81 : Int) = 86 by omega), up_ne (show ¬ (81 : Int) = 87 by omega), up_ne (show ¬ (84 : Int) = 81 by omega), up_ne (show ¬ (86 : Int) = 81 by omega), up_ne (show ¬ (86 : Int) = 84 by omega), up_ne (show ¬ (87 : Int) = 81 by omega), up_ne (show ¬ (87 : Int) = 84 by omega), up_ne (show ¬ (87 : Int) = 86 by omega), up_same, hw, e1, e2, e3]
  refine ⟨by omega, by omega, by omega, by omega, by omega, by omega, by omega, h _ (fun q g1 g2 g3 g4 g5 => by rw [nc_ne g3, up_ne g5, up_ne g4, up_ne g2, up_ne g1]) (fun j hj => ?_) ?_ (fun i => ?_) (fun i => ?_) (fun i => ?_) (fun i c c0 c8 => ?_)⟩
  · rw [nc_ne (by omega), up_ne (by omega), up_ne (by omega), up_ne (by omega), up_oth hj]
  · rw [nc_ne (by omega), up_ne (by omega), up_ne (by omega), up_ne (by omega), up_same]
  · rw [nc_ne (by omega), up_ne (by omega), up_ne (by omega), up_eq, up_ne (by omega)]
  · rw [nc_ne (by omega), up_ne (by omega), up_eq, up_ne (by omega), up_ne (by omega)]
  · rw [nc_ne (by omega), up_eq, up_ne (by omega), up_ne (by omega), up_ne (by omega)]
  · rw [nc_at, up_ne (by omega), up_ne (by omega), up_ne (by omega), up_ne (by omega)]
    by_cases hi : i = p
    · rw [if_pos (by omega), if_pos hi, show 8 * (w - 1) + (8 * i + c - 8 * p) = 8 * (w - 1) + c by omega]
    · rw [if_neg (by omega), if_neg hi]
/-- what agrees at all cases IN is the same -/
theorem mts_ag {m : jM} (hP : plL 54 m 8) {l x : List Int} (hl : l ∈ mts (pO (m 57)) (bt (m 54 0)) 8 0) (hx : x ∈ mts (pO (m 57)) (bt (m 54 0)) 8 0) (h : ∀ v : Int, 0 ≤ v → v < m 54 1 → l.getD (m 55 v).toNat (-1) = x.getD (m 55 v).toNat (-1)) : l = x := by
  refine ls_ext (mts_len 8 0 l hl) (mts_len 8 0 x hx) (fun c c0 c8 => ?_)
  by_cases hC : bt (m 54 0) c = true
  · have hCn : ∀ y : Int, 0 ≤ y → bt (m 54 0) y = true → bt (m 54 0) (y.toNat : Int) = true := fun y y0 g => by rw [Int.toNat_of_nonneg y0]; exact g
    have hv : pcn (bt (m 54 0)) c.toNat < m 54 1 := by
      have := pcn_lt (f := bt (m 54 0)) (i := c.toNat) (j := 8) (by omega) (hCn c c0 hC)
      have e := hP.1
      rw [show (8 : Int).toNat = 8 from rfl] at e
      omega
    have h0 := (pcn_nn (bt (m 54 0)) c.toNat).1
    obtain ⟨b1, b2, b3, b4⟩ := hP.2.2.1 (pcn (bt (m 54 0)) c.toNat) h0 hv
    have he : m (54 + 1) (pcn (bt (m 54 0)) c.toNat) = c := by
      generalize m (54 + 1) (pcn (bt (m 54 0)) c.toNat) = y at *
      by_cases g1 : y < c
      · have := pcn_lt (f := bt (m 54 0)) (i := y.toNat) (j := c.toNat) (by omega) (hCn y b1 b3)
        omega
      · by_cases g2 : c < y
        · have := pcn_lt (f := bt (m 54 0)) (i := c.toNat) (j := y.toNat) (by omega) (hCn c c0 hC)
          omega
        · omega
    have := h _ h0 hv
    rw [show m 55 (pcn (bt (m 54 0)) c.toNat) = c from he] at this
    exact this
  · rw [mts_out hl c0 c8 hC, mts_out hx c0 c8 hC]
theorem wP_sp {m : jM} (hP : plL 54 m 8) {j S : Int} {l x : List Int} (h0 : 0 ≤ j) (hj : j < m 54 1) (hl : l ∈ mts (pO (m 57)) (bt (m 54 0)) 8 0) (hx : x ∈ mts (pO (m 57)) (bt (m 54 0)) 8 0) (hxS : bt S (x.getD (m 55 j).toNat (-1)) = false) :
    (wP (m 54 1) (m 55) x j (iOr S (iShl 1 (x.getD (m 55 j).toNat (-1)))) l → wP (m 54 1) (m 55) x j S l ∧ l ≠ x) ∧
    ((wP (m 54 1) (m 55) x (j + 1) 0 l ∧ l ≠ x) ↔ ((wP (m 54 1) (m 55) x j S l ∧ l ≠ x) ∧ ¬ wP (m 54 1) (m 55) x j (iOr S (iShl 1 (x.getD (m 55 j).toNat (-1)))) l)) := by
  obtain ⟨b1, b2, _⟩ := nA_lv hP h0 hj
  have hxr := mts_in hx b1.1 b1.2 b2
  have hlr := mts_in hl b1.1 b1.2 b2
  have hbt : bt (iOr S (iShl 1 (x.getD (m 55 j).toNat (-1)))) (l.getD (m 55 j).toNat (-1)) = (bt S (l.getD (m 55 j).toNat (-1)) || decide (l.getD (m 55 j).toNat (-1) = x.getD (m 55 j).toNat (-1))) := by
    rw [bt_or, bt_one (by omega) (by omega)]
  unfold wP
  rw [hbt]
  refine ⟨fun g => ?_, fun g => ?_, fun g => ?_⟩
  · have := g.2 hj
    rw [Bool.or_eq_false_iff, decide_eq_false_iff_not] at this
    exact ⟨⟨g.1, fun _ => this.1⟩, fun e => this.2 (by rw [e])⟩
  · have hji := g.1.1 j h0 (by omega)
    refine ⟨⟨⟨fun v v1 v2 => g.1.1 v v1 (by omega), fun _ => by rw [hji]; exact hxS⟩, g.2⟩, fun g2 => ?_⟩
    have := g2.2 hj
    rw [Bool.or_eq_false_iff, decide_eq_false_iff_not] at this
    exact this.2 hji
  · obtain ⟨⟨g1, g2⟩, g3⟩ := g
    refine ⟨⟨fun v v1 v2 => ?_, fun _ => bt_0 _⟩, g2⟩
    by_cases hv : v = j
    · subst hv
      apply Classical.byContradiction
      intro hne
      refine g3 ⟨g1.1, fun _ => ?_⟩
      rw [g1.2 hj, Bool.false_or, decide_eq_false_iff_not]
      exact hne
    · exact g1.1 v v1 (by omega)
theorem nP_cg {m m1 m2 : jM} {i i' : Int} (hX : nX m2 i' = nX m1 i) (h6 : m2 86 i' = m1 86 i) (h7 : m2 87 i' = m1 87 i) (l : List Int) : nP m m2 i' l ↔ nP m m1 i l := by
  unfold nP
  rw [hX, h6, h7]
theorem s_split {d : Nat} {t S g w : Int} {x : List Int} {F : List (List Int)} {m m1 : jM} {Q : Int → jM → Prop} (hW : pW 0 54 m) (hB : dpB (pO (m 57)) (rB (m 56))) (hf : ∀ q, q < 81 → m1 q = m q) (hg : m1 81 0 = g + 1) (hg0 : 0 ≤ g ∧ g < 12) (hx : x ∈ mts (pO (m 57)) (bt (m 54 0)) 8 0) (h83 : ∀ c : Int, 0 ≤ c → c < 8 → m1 83 (8 * g + c) = x.getD c.toNat (-1)) (hw : m1 81 3 = w) (hw0 : 0 ≤ w ∧ w ≤ 89)
    (ht : 0 ≤ t ∧ (t < m 54 1 ∨ (t = 0 ∧ S = 0))) (hxS : t < m 54 1 → bt S (x.getD (m 55 t).toNat (-1)) = false)
    (hI : wI (tot (rB (m 56)) 8) (mts (pO (m 57)) (bt (m 54 0)) 8 0) F w (nX m1) (nP m m1) (fun l => wP (m 54 1) (m 55) x t S l ∧ l ≠ x)) (hM : nM m m1 w)
    (h : ∀ (m2 : jM) (w2 : Int), 0 ≤ w2 → w2 ≤ w + 8 → (∀ q, q ≠ 81 → q ≠ 84 → q ≠ 85 → q ≠ 86 → q ≠ 87 → m2 q = m1 q) → (∀ j, j ≠ 3 → m2 81 j = m1 81 j) → m2 81 3 = w2 → wI (tot (rB (m 56)) 8) (mts (pO (m 57)) (bt (m 54 0)) 8 0) F w2 (nX m2) (nP m m2) (fun _ => False) → nM m m2 w2 → Q 0 m2) :
    jK (d + 3) zX3_split [jO 3 81, jO 4 54, jI t, jI S] m1 Q := by
  have hP := hW.1
  have hm1 : 0 ≤ m 54 1 ∧ m 54 1 ≤ 8 := by rw [hP.1]; exact pcn_nn _ _
  have loop : ∀ (r : Nat) (j S1 w1 : Int) (m2 : jM), j + r = m 54 1 → t ≤ j → (j < m 54 1 → bt S1 (x.getD (m 55 j).toNat (-1)) = false) → (0 ≤ w1 ∧ w1 ≤ w + (j - t)) → (∀ q, q ≠ 81 → q ≠ 84 → q ≠ 85 → q ≠ 86 → q ≠ 87 → m2 q = m1 q) → (∀ j, j ≠ 3 → m2 81 j = m1 81 j) → m2 81 3 = w1 →
      wI (tot (rB (m 56)) 8) (mts (pO (m 57)) (bt (m 54 0)) 8 0) F w1 (nX m2) (nP m m2) (fun l => wP (m 54 1) (m 55) x j S1 l ∧ l ≠ x) → nM m m2 w1 → aX3_split_14 (d + 2) g S1 j m2 Q := by
    intro r
    induction r with
    | zero =>
      intro j S1 w1 m2 hjr htj hS1 hw1 f0 f1 f2 hI2 hM2
      have k54 : m2 54 = m 54 := by rw [f0 54 (by omega) (by omega) (by omega) (by omega) (by omega), hf 54 (by omega)]
      refine gX3_split_14 (d + 2) g S1 j m2 Q ⟨fun q => by rw [k54] at q; omega, fun _ => ?_⟩
      refine h m2 w1 hw1.1 (by omega) f0 f1 f2 (wI_mono hI2 (fun l hl => ⟨fun g => g.elim, fun g => ?_⟩) (fun _ _ _ => rfl) (fun _ _ _ _ _ => Iff.rfl)) hM2
      exact g.2 (mts_ag hP hl hx (fun v v1 v2 => g.1.1 v v1 (by omega)))
    | succ r ih =>
      intro j S1 w1 m2 hjr htj hS1 hw1 f0 f1 f2 hI2 hM2
      have hj : j < m 54 1 := by omega
      have hj0 : 0 ≤ j := by omega
      have k54 : m2 54 = m 54 := by rw [f0 54 (by omega) (by omega) (by omega) (by omega) (by omega), hf 54 (by omega)]
      have k55 : m2 55 = m 55 := by rw [f0 55 (by omega) (by omega) (by omega) (by omega) (by omega), hf 55 (by omega)]
      have k83 : m2 83 = m1 83 := f0 83 (by omega) (by omega) (by omega) (by omega) (by omega)
      obtain ⟨b1, b2, _⟩ := nA_lv hP hj0 hj
      have e1 : w32 (w32 (g * 8) + m 55 j) = 8 * g + m 55 j := by simp (disch := omega) only [w32_id]; omega
      have ej : w32 (j + 1) = j + 1 := w32_id (by omega) (by omega)
      have hSj := hS1 hj
      refine gX3_split_14 (d + 2) g S1 j m2 Q ⟨fun _ => ⟨by omega, by rw [k55, e1]; omega, ?_⟩, fun q => by rw [k54] at q; omega⟩
      rw [k55, e1, k83, h83 _ b1.1 b1.2, ej]
      refine s_propose (x := x) hW hB (fun q hq => by rw [f0 q (by omega) (by omega) (by omega) (by omega) (by omega)]; exact hf q hq) f2 (by omega) ⟨hj0, Or.inl hj⟩ (fun _ => ⟨hg0, hx, fun c c0 c8 => by rw [k83]; exact h83 c c0 c8⟩) (fun m3 n1 n2 n3 => ?_) (fun m3 z z1 z2 z3 n1 n2 n3 n4 n5 n6 n7 n8 n9 => ?_)
      · have hX : ∀ i : Int, 0 ≤ i → i < w1 → nX m3 i = nX m2 i := fun i i1 i2 => nX_cg (fun c c0 c8 => n3 _ (Or.inl (by omega)))
        refine ih (j + 1) 0 w1 m3 (by omega) (by omega) (fun _ => bt_0 _) (by omega) (fun q g1 g2 g3 g4 g5 => by rw [n2 q g3]; exact f0 q g1 g2 g3 g4 g5) (fun y hy => by rw [n2 81 (by omega)]; exact f1 y hy) (by rw [n2 81 (by omega)]; exact f2) (wI_none hI2 n1 (fun l hl => (wP_sp hP hj0 hj hl hx hSj).2) hX (fun i i1 i2 l _ => nP_cg (hX i i1 i2) (by rw [n2 86 (by omega)]) (by rw [n2 87 (by omega)]) l)) (fun i i1 i2 => ?_)
        rw [hX i i1 i2, n2 84 (by omega), n2 86 (by omega), n2 87 (by omega)]
        exact hM2 i i1 i2
      · have hX : ∀ i : Int, 0 ≤ i → i < w1 → nX m3 i = nX m2 i := fun i i1 i2 => nX_cg (fun c c0 c8 => n5 _ (Or.inl (by omega)))
        have hXn : nX m3 w1 = z := ls8_eq (mts_len 8 0 z z1) n9
        refine ih (j + 1) 0 (w1 + 1) m3 (by omega) (by omega) (fun _ => bt_0 _) (by omega) (fun q g1 g2 g3 g4 g5 => by rw [n1 q g1 g2 g3 g4 g5]; exact f0 q g1 g2 g3 g4 g5) (fun y hy => by rw [n2 y hy]; exact f1 y hy) n3 (wI_add hI2 hw1.1 z1 z2 z3 (fun l hl g => (wP_sp hP hj0 hj hl hx hSj).1 g) (fun l hl => (wP_sp hP hj0 hj hl hx hSj).2) hX hXn (fun i i1 i2 l _ => nP_cg (hX i i1 i2) (n4 i (by omega)).2.1 (n4 i (by omega)).2.2 l) (fun l hl => ?_)) (fun i i1 i2 => ?_)
        · unfold nP
          rw [hXn, n7, n8]
          unfold wP
          constructor
          · exact fun g => ⟨fun v v1 v2 => by rw [g.1 v v1 v2]; exact z2.1 v v1 v2, g.2⟩
          · exact fun g => ⟨fun v v1 v2 => by rw [g.1 v v1 v2]; exact (z2.1 v v1 v2).symm, g.2⟩
        · by_cases hi : i = w1
          · subst hi
            rw [hXn, n6, n7, n8]
            exact ⟨rfl, hj0, Or.inl hj⟩
          · rw [hX i i1 (by omega), (n4 i hi).1, (n4 i hi).2.1, (n4 i hi).2.2]
            exact hM2 i i1 (by omega)
  have eg : w32 (m1 81 0 - 1) = g := by rw [hg, w32_id (by omega) (by omega)]; omega
  refine gX3_split (d + 2) t S m1 Q ?_
  rw [eg]
  exact loop (m 54 1 - t).toNat t S w m1 (by omega) (Int.le_refl _) hxS (by omega) (fun _ _ _ _ _ _ => rfl) (fun _ _ => rfl) hw hI hM
theorem wP_00 (n : Int) (od : Int → Int) (x l : List Int) : wP n od x 0 0 l := ⟨fun v v1 v2 => by omega, fun _ => bt_0 _⟩
theorem s_nfind {d : Nat} {m : jM} {Q : Int → jM → Prop} (hW : pW 0 54 m) (hB : dpB (pO (m 57)) (rB (m 56)))
    (h : ∀ (m2 : jM) (T : List (List Int)), (∀ q, (q < 81 ∨ 87 < q) → m2 q = m q) → Top (tot (rB (m 56)) 8) (mts (pO (m 57)) (bt (m 54 0)) 8 0) T → m2 81 0 = T.length → (∀ i : Int, 0 ≤ i → i < T.length → m2 82 i = tot (rB (m 56)) 8 (gtD T i) ∧ ∀ c : Int, 0 ≤ c → c < 8 → m2 83 (8 * i + c) = (gtD T i).getD c.toNat (-1)) → Q 0 m2) : jK (d + 4) zX3_find [jO 3 81, jO 4 54] m Q := by
  have hlen : ∀ l ∈ mts (pO (m 57)) (bt (m 54 0)) 8 0, l.length = 8 := fun l hl => mts_len 8 0 l hl
  have loop : ∀ (r : Nat) (x2 w : Int) (F : List (List Int)) (m1 : jM), x2 + r = 12 → x2 = F.length → (0 ≤ w ∧ w ≤ 1 + 8 * x2) → (∀ q, (q < 81 ∨ 87 < q) → m1 q = m q) → m1 81 0 = x2 → m1 81 3 = w → wI (tot (rB (m 56)) 8) (mts (pO (m 57)) (bt (m 54 0)) 8 0) F w (nX m1) (nP m m1) (fun _ => False) → nM m m1 w →
      (∀ i : Int, 0 ≤ i → i < F.length → m1 82 i = tot (rB (m 56)) 8 (gtD F i) ∧ ∀ c : Int, 0 ≤ c → c < 8 → m1 83 (8 * i + c) = (gtD F i).getD c.toNat (-1)) → aX3_find_20 (d + 3) x2 m1 Q := by
    intro r
    induction r with
    | zero =>
      intro x2 w F m1 hxr hxF hw f0 f1 f2 hI hM hF
      refine gX3_find_20 (d + 3) x2 m1 Q ⟨fun q => by omega, fun _ => ?_⟩
      exact h m1 F f0 (wI_top hI (fun _ _ => id) (by omega) (Or.inl (by omega))) (by rw [f1, hxF]) hF
    | succ r ih =>
      intro x2 w F m1 hxr hxF hw f0 f1 f2 hI hM hF
      have ex : w32 (x2 + 1) = x2 + 1 := w32_id (by omega) (by omega)
      refine gX3_find_20 (d + 3) x2 m1 Q ⟨fun _ => ⟨fun q => ?_, fun q => ?_⟩, fun q => by omega⟩
      · rw [f2] at q
        refine jK_deep (show (d + 1) + 2 ≤ d + 3 by omega) (s_firstPart f2 ⟨q, by omega⟩ (fun i i1 i2 => (hM i i1 i2).1) (fun p p1 p2 pm => ⟨by omega, by omega, ?_⟩))
        obtain ⟨x1, x2', _⟩ := hI.2.2.1 p p1 p2
        obtain ⟨q1, q2, q3⟩ := hM p p1 p2
        refine jK_deep (show d + 1 ≤ d + 3 by omega) (s_keepN (by omega) f1 (by omega) (fun m2 n1 n2 n3 n4 n5 n6 n7 => ?_))
        refine jK_deep (show d + 1 ≤ d + 3 by omega) (s_dropN (w := w) ⟨p1, p2⟩ (by rw [n2 3 (by omega)]; exact f2) (by omega) (fun m3 o1 o2 o3 o4 o5 o6 o7 => ?_))
        have r84 : m2 84 = m1 84 := n1 84 (by omega) (by omega) (by omega)
        have r85 : m2 85 = m1 85 := n1 85 (by omega) (by omega) (by omega)
        have r86 : m2 86 = m1 86 := n1 86 (by omega) (by omega) (by omega)
        have r87 : m2 87 = m1 87 := n1 87 (by omega) (by omega) (by omega)
        have r82 : m3 82 = m2 82 := o1 82 (by omega) (by omega) (by omega) (by omega) (by omega)
        have r83 : m3 83 = m2 83 := o1 83 (by omega) (by omega) (by omega) (by omega) (by omega)
        rw [r84] at o4
        rw [r86] at o5
        rw [r87] at o6
        rw [r85] at o7
        have hXp : ∀ i : Int, nX m3 i = if i = p then nX m1 (w - 1) else nX m1 i := by
          intro i
          by_cases hi : i = p
          · rw [if_pos hi]
            exact nX_cg (fun c c0 c8 => by rw [o7 i c c0 c8, if_pos hi])
          · rw [if_neg hi]
            exact nX_cg (fun c c0 c8 => by rw [o7 i c c0 c8, if_neg hi])
        have hPp : ∀ (i : Int) (l : List Int), nP m m3 i l ↔ if i = p then nP m m1 (w - 1) l else nP m m1 i l := by
          intro i l
          by_cases hi : i = p
          · rw [if_pos hi]
            exact nP_cg (by rw [hXp, if_pos hi]) (by rw [o5, if_pos hi]) (by rw [o6, if_pos hi]) l
          · rw [if_neg hi]
            exact nP_cg (by rw [hXp, if_neg hi]) (by rw [o5, if_neg hi]) (by rw [o6, if_neg hi]) l
        have hI3 : wI (tot (rB (m 56)) 8) (mts (pO (m 57)) (bt (m 54 0)) 8 0) (F ++ [nX m1 p]) (w - 1) (nX m3) (nP m m3) (fun l => nP m m1 p l ∧ l ≠ nX m1 p) :=
          wI_take hI (fun _ _ => id) hlen ⟨p1, p2⟩ pm (fun i _ _ => hXp i) (fun i _ _ l _ => hPp i l)
        have hM3 : nM m m3 (w - 1) := by
          intro i i1 i2
          rw [hXp, o4, o5, o6]
          by_cases hi : i = p
          · rw [if_pos hi, if_pos hi, if_pos hi, if_pos hi]
            exact hM (w - 1) (by omega) (by omega)
          · rw [if_neg hi, if_neg hi, if_neg hi, if_neg hi]
            exact hM i i1 (by omega)
        have hfound : ∀ i : Int, 0 ≤ i → i < (F ++ [nX m1 p]).length → m3 82 i = tot (rB (m 56)) 8 (gtD (F ++ [nX m1 p]) i) ∧ ∀ c : Int, 0 ≤ c → c < 8 → m3 83 (8 * i + c) = (gtD (F ++ [nX m1 p]) i).getD c.toNat (-1) := by
          intro i i1 i2
          rw [List.length_append, List.length_singleton] at i2
          rw [gtD_app i1, r82, r83]
          by_cases hi : i < F.length
          · rw [if_pos hi, n5 i (by omega)]
            obtain ⟨v1, v2⟩ := hF i i1 hi
            exact ⟨v1, fun c c0 c8 => by rw [n7 _ (Or.inl (by omega))]; exact v2 c c0 c8⟩
          · have hie : i = x2 := by omega
            rw [if_neg hi, if_pos (by omega), hie, n4]
            exact ⟨q1, fun c c0 c8 => by rw [n6 c c0 c8, nX_get c0 c8]⟩
        refine s_split (x := nX m1 p) (g := x2) (w := w - 1) (F := F ++ [nX m1 p]) hW hB (fun q hq => by rw [o1 q (by omega) (by omega) (by omega) (by omega) (by omega), n1 q (by omega) (by omega) (by omega)]; exact f0 q (Or.inl hq)) (by rw [o2 0 (by omega), n3]) (by omega) x1 (fun c c0 c8 => by rw [r83, n6 c c0 c8, nX_get c0 c8]) o3 (by omega) ⟨q2, q3⟩ x2'.2 hI3 hM3 (fun m4 w2 v1 v2 v3 v4 v5 v6 v7 => ?_)
        rw [ex]
        refine ih (x2 + 1) w2 (F ++ [nX m1 p]) m4 (by omega) (by rw [List.length_append, List.length_singleton]; omega) (by omega) (fun q hq => by rw [v3 q (by omega) (by omega) (by omega) (by omega) (by omega), o1 q (by omega) (by omega) (by omega) (by omega) (by omega), n1 q (by omega) (by omega) (by omega)]; exact f0 q hq) (by rw [v4 0 (by omega), o2 0 (by omega), n3]) v5 v6 v7 (fun i i1 i2 => ?_)
        rw [v3 82 (by omega) (by omega) (by omega) (by omega) (by omega), v3 83 (by omega) (by omega) (by omega) (by omega) (by omega)]
        exact hfound i i1 i2
      · rw [f2] at q
        exact h m1 F f0 (wI_top hI (fun _ _ => id) (by omega) (Or.inr (by omega))) (by rw [f1, hxF]) hF
  refine gX3_find (d + 3) m Q ?_
  have fr : ∀ q, q ≠ 81 → jUp (jUp m 81 0 0) 81 3 0 q = m q := fun q hq => by rw [up_ne hq, up_ne hq]
  have z0 : jUp (jUp m 81 0 0) 81 3 0 81 0 = 0 := by rw [up_oth (by omega), up_same]
  have z3 : jUp (jUp m 81 0 0) 81 3 0 81 3 = 0 := up_same
  generalize jUp (jUp m 81 0 0) 81 3 0 = m0 at *
  refine jK_deep (show (d + 1) + 2 ≤ d + 3 by omega) (s_propose (x := []) hW hB (fun q hq => fr q (by omega)) z3 (by omega) ⟨Int.le_refl _, Or.inr ⟨rfl, rfl⟩⟩ (fun g => by omega) (fun m2 n1 n2 n3 => ?_) (fun m2 z z1 z2 z3' n1 n2 n3 n4 n5 n6 n7 n8 n9 => ?_))
  · refine loop 12 0 0 [] m2 (by omega) rfl (by omega) (fun q hq => by rw [n2 q (by omega)]; exact fr q (by omega)) (by rw [n2 81 (by omega)]; exact z0) (by rw [n2 81 (by omega)]; exact z3) (wI_none (wI_0 _ _ (nX m2) (nP m m2)) n1 (fun l hl => ⟨fun g => g.elim, fun g => g.2 (wP_00 _ _ _ _)⟩) (fun _ _ _ => rfl) (fun _ _ _ _ _ => Iff.rfl)) (fun i i1 i2 => by omega) (fun i i1 i2 => ?_)
    rw [List.length_nil] at i2
    omega
  · have hXn : nX m2 0 = z := ls8_eq (mts_len 8 0 z z1) n9
    refine loop 12 0 1 [] m2 (by omega) rfl (by omega) (fun q hq => by rw [n1 q (by omega) (by omega) (by omega) (by omega) (by omega)]; exact fr q (by omega)) (by rw [n2 0 (by omega)]; exact z0) n3 (wI_add (D := wP (m 54 1) (m 55) [] 0 0) (wI_0 _ _ (nX m2) (nP m m2)) (Int.le_refl _) z1 z2 z3' (fun _ _ _ => trivial) (fun l hl => ⟨fun g => g.elim, fun g => g.2 (wP_00 _ _ _ _)⟩) (fun _ _ _ => rfl) hXn (fun _ _ _ _ _ => Iff.rfl) (fun l hl => ?_)) (fun i i1 i2 => ?_) (fun i i1 i2 => ?_)
    · unfold nP
      rw [n7, n8]
      exact ⟨fun _ => wP_00 _ _ _ _, fun _ => wP_00 _ _ _ _⟩
    · rw [show i = 0 by omega, hXn, n6, n7, n8]
      exact ⟨rfl, Int.le_refl _, Or.inr ⟨rfl, rfl⟩⟩
    · rw [List.length_nil] at i2
      omega

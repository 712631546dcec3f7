/-! what a matching holds; days of the class -/
theorem mts_at {o : Int → Int → Bool} {C : Int → Bool} (k : Nat) (hk : k ≤ 8) : ∀ s l, l ∈ mts o C k s → ∀ c : Int, 8 - (k : Int) ≤ c → c < 8 → (C c = false ∧ l.getD (c - (8 - (k : Int))).toNat (-1) = -1) ∨ (C c = true ∧ (0 ≤ l.getD (c - (8 - (k : Int))).toNat (-1) ∧ l.getD (c - (8 - (k : Int))).toNat (-1) < 8) ∧ o (l.getD (c - (8 - (k : Int))).toNat (-1)) c = true ∧ bt s (l.getD (c - (8 - (k : Int))).toNat (-1)) = false) := by
  induction k with
  | zero => intro s l _ c c1 c2; omega
  | succ k ih =>
    intro s l hl c c1 c2
    rw [mts_s] at hl
    split at hl
    · rename_i hC
      obtain ⟨j, hj, hj2⟩ := fm_mem.mp hl
      split at hj2
      · rename_i hg
        obtain ⟨l', h1, rfl⟩ := List.mem_map.mp hj2
        by_cases hc : c = 7 - (k : Int)
        · rw [show (c - (8 - ((k + 1 : Nat) : Int))).toNat = 0 by omega, List.getD_cons_zero, hc]
          exact Or.inr ⟨hC, ⟨by omega, by omega⟩, hg.2, hg.1⟩
        · have e : (c - (8 - ((k + 1 : Nat) : Int))).toNat = (c - (8 - (k : Int))).toNat + 1 := by omega
          rw [e, List.getD_cons_succ]
          rcases ih (by omega) _ _ h1 c (by omega) c2 with g | ⟨g1, g2, g3, g4⟩
          · exact Or.inl g
          · rw [bt_or, Bool.or_eq_false_iff] at g4
            exact Or.inr ⟨g1, g2, g3, g4.1⟩
      · cases hj2
    · rename_i hC
      obtain ⟨l', h1, rfl⟩ := List.mem_map.mp hl
      by_cases hc : c = 7 - (k : Int)
      · rw [show (c - (8 - ((k + 1 : Nat) : Int))).toNat = 0 by omega, List.getD_cons_zero, hc]
        exact Or.inl ⟨by simpa using hC, rfl⟩
      · have e : (c - (8 - ((k + 1 : Nat) : Int))).toNat = (c - (8 - (k : Int))).toNat + 1 := by omega
        rw [e, List.getD_cons_succ]
        exact ih (by omega) _ _ h1 c (by omega) c2
theorem m8_at {o : Int → Int → Bool} {C : Int → Bool} {l : List Int} (h : l ∈ mts o C 8 0) {c : Int} (c1 : 0 ≤ c) (c2 : c < 8) : (C c = false ∧ l.getD c.toNat (-1) = -1) ∨ (C c = true ∧ (0 ≤ l.getD c.toNat (-1) ∧ l.getD c.toNat (-1) < 8) ∧ o (l.getD c.toNat (-1)) c = true) := by
  have := mts_at 8 (Nat.le_refl 8) 0 l h c (by omega) c2
  rw [show (c - (8 - ((8 : Nat) : Int))).toNat = c.toNat by omega] at this
  rcases this with g | g
  · exact Or.inl g
  · exact Or.inr ⟨g.1, g.2.1, g.2.2.1⟩
theorem bst_m {o : Int → Int → Bool} {b : Int → Int → Int} {C : Int → Bool} {i : Nat} {T : List Int} (h : (bst o b C 8 0)[i]? = some T) : T ∈ mts o C 8 0 := (List.mem_filter.mp (List.mem_of_getElem? h)).1
theorem bst_get {o : Int → Int → Bool} {b : Int → Int → Int} {C : Int → Bool} (hB : dpB o b) {i : Int} (h0 : 0 ≤ i) (h : i < (dpt 0 o b C 8 0).2) : ∃ T, (bst o b C 8 0)[i.toNat]? = some T := by
  have := bst_len (C := C) hB (Nat.le_refl 8) mk_0
  exact ⟨_, List.getElem?_eq_getElem (by omega)⟩
theorem pW_0 {h p : Int} {m : jM} (w : pW h p m) : m (p + 4) 0 = toN (dpt h (pO (m (p + 3))) (rB (m (p + 2))) (bt (m p 0)) 8 0).1 ∧ m (p + 5) 0 = (dpt h (pO (m (p + 3))) (rB (m (p + 2))) (bt (m p 0)) 8 0).2 := by
  have e := w.2 0 mk_0 (fun j _ _ g => by rw [bt_0] at g; cases g)
  unfold pEn at e
  rw [pc8_0, ← pLv_first (h := h) w.1] at e
  exact e
theorem dp_pos {o : Int → Int → Bool} {b : Int → Int → Int} {C : Int → Bool} (hB : dpB o b) : (dpt 0 o b C 8 0).1 ≠ dpF ↔ 0 < (dpt 0 o b C 8 0).2 := by
  have a := dpt_F (C := C) hB (Nat.le_refl 8) mk_0
  have c := (dpt_pos (C := C) hB (Nat.le_refl 8) mk_0).1
  constructor
  · intro g
    have : ¬ (dpt 0 o b C 8 0).2 = 0 := fun w => g (a.mpr w)
    omega
  · intro g w
    have := a.mp w
    omega
theorem s_take62 {d : Nat} {m : jM} {Q : Int → jM → Prop} (h : ∀ m' : jM, (∀ q, q ≠ 62 → q ≠ 64 → q ≠ 65 → m' q = m q) → m' 62 0 = m 54 0 → (∀ j, j ≠ 0 → m' 62 j = m 62 j) → (∀ x : Int, 0 ≤ x → x < 64 → m' 64 x = m 56 x) → (∀ c : Int, 0 ≤ c → c < 8 → m' 65 c = m 57 c) → Q 0 m') : jK (d + 1) zX4_take [jO 4 62, jO 4 54] m Q := by
  refine gX4_take d 62 m Q ⟨by omega, by omega, h _ (fun q h1 h2 h3 => ?_) ?_ (fun j hj => ?_) (fun x x1 x2 => ?_) (fun c c1 c2 => ?_)⟩
  · funext i
    unfold jCp
    rw [if_neg (by omega), if_neg (by omega), up_ne h1]
  · unfold jCp
    rw [if_neg (by omega), if_neg (by omega), up_same]
  · unfold jCp
    rw [if_neg (by omega), if_neg (by omega), up_oth hj]
  · unfold jCp
    rw [if_neg (by omega), if_pos (by omega), up_ne (by omega)]
    congr 1
    omega
  · unfold jCp
    rw [if_pos (by omega)]
    rw [if_neg (by omega), up_ne (by omega)]
    congr 1
    omega
def bX1_hear_30 (d : Nat) (x2 x3 : Int) (m : jM) (Q : Int → jM → Prop) : Prop := jA (d + 1) zX1_hear 30 [some (jO 1 88), none, some (jI x2), some (jI x3), none] [] m Q
set_option maxRecDepth 100000 in
theorem hX1_hear (d : Nat) (x2 : Int) (m : jM) (Q : Int → jM → Prop)
    (h : jK d zX4_pick [jO 4 62, jI 0, jY 0 8 91] m (fun v1 m1 => ((0 : Int) ≤ 0 ∧ (0 : Int) < 256) ∧ ((0 : Int) ≤ x2 ∧ (x2 : Int) < 8) ∧ bX1_hear_30 d x2 0 (jUp (jUp m1 89 x2 (m1 66 0)) 88 0 (w32 (x2 + 1))) Q)) :
    jK (d + 1) zX1_hear [jO 1 88, jO 4 62, jI x2] m Q := jWp_sn0 [(30, [true, false, true, true, false])] jcX1_hear 21 rfl h
set_option maxRecDepth 100000 in
theorem kX1_hear_30 (d : Nat) (x2 x3 : Int) (m : jM) (Q : Int → jM → Prop)
    (h : (x3 < 8 → ((0 : Int) ≤ x3 ∧ (x3 : Int) < 8) ∧ ((0 : Int) ≤ (w32 ((w32 (x2 * 8)) + x3)) ∧ ((w32 ((w32 (x2 * 8)) + x3)) : Int) < 64) ∧ ((m 91 x3) = (-1) → bX1_hear_30 d x2 (w32 (x3 + 1)) (jUp m 90 (w32 ((w32 (x2 * 8)) + x3)) (m 91 x3)) Q) ∧ (¬ (m 91 x3) = (-1) → ((0 : Int) ≤ (w32 ((w32 ((m 91 x3) * 8)) + x3)) ∧ ((w32 ((w32 ((m 91 x3) * 8)) + x3)) : Int) < 64) ∧ bX1_hear_30 d x2 (w32 (x3 + 1)) (jUp (jUp m 90 (w32 ((w32 (x2 * 8)) + x3)) (m 91 x3)) 92 (w32 ((w32 ((m 91 x3) * 8)) + x3)) 1) Q)) ∧ (¬ x3 < 8 → Q 0 m)) :
    bX1_hear_30 d x2 x3 m Q := jWp_snd [(30, [true, false, true, true, false])] jcX1_hear 32 rfl h
theorem s_hear {d : Nat} {i : Int} {T : List Int} {m : jM} {Q : Int → jM → Prop} (hi : 0 ≤ i ∧ i < 8) (hW : pW 0 62 m) (hr : ∀ c : Int, 0 ≤ c → c < 8 → mk8 (m 65 c)) (hB : dpB (pO (m 65)) (rB (m 64))) (hT : (bst (pO (m 65)) (rB (m 64)) (bt (m 62 0)) 8 0)[0]? = some T)
    (h : ∀ m' : jM, (∀ q, ¬ (88 ≤ q ∧ q ≤ 92) → m' q = m q) → m' 88 0 = i + 1 → (∀ x, m' 89 x = if x = i then m 66 0 else m 89 x) → (∀ y, m' 90 y = if 8 * i ≤ y ∧ y < 8 * i + 8 then T.getD (y - 8 * i).toNat (-1) else m 90 y) → (∀ x : Int, 0 ≤ x → x < 64 → m' 92 x = dyN (m 92) T x) → Q 0 m') : jK (d + 3) zX1_hear [jO 1 88, jO 4 62, jI i] m Q := by
  have hm := bst_m hT
  have rng : ∀ c : Int, 0 ≤ c → c < 8 → T.getD c.toNat (-1) = -1 ∨ (0 ≤ T.getD c.toNat (-1) ∧ T.getD c.toNat (-1) < 8) := fun c c1 c2 => by
    rcases m8_at hm c1 c2 with g | g
    · exact Or.inl g.2
    · exact Or.inr g.2.1
  refine hX1_hear (d + 2) i m Q (s_pick (p := 62) (y := 91) (i := 0) (T := T) (by omega) hW hr hB (by omega) hT (fun m1 f1 p1 => ⟨by omega, hi, ?_⟩))
  rw [w32_id (by omega) (by omega)]
  have e66 : m1 66 0 = m 66 0 := by rw [f1 66 (by omega)]
  have loop : ∀ (k : Nat) (c : Int) (mm : jM), 0 ≤ c → c + k = 8 → (∀ q, ¬ (88 ≤ q ∧ q ≤ 92) → mm q = m q) → mm 88 0 = i + 1 → (∀ x, mm 89 x = if x = i then m 66 0 else m 89 x) → (∀ y : Int, 0 ≤ y → y < 8 → mm 91 y = T.getD y.toNat (-1)) → (∀ y, mm 90 y = if 8 * i ≤ y ∧ y < 8 * i + c then T.getD (y - 8 * i).toNat (-1) else m 90 y) → (∀ x : Int, 0 ≤ x → x < 64 → mm 92 x = if x % 8 < c ∧ T.getD (x % 8).toNat (-1) = x / 8 then 1 else m 92 x) → bX1_hear_30 (d + 2) i c mm Q := by
    intro k
    induction k with
    | zero =>
      intro c mm c0 ck g1 g2 g3 g4 g5 g6
      refine kX1_hear_30 (d + 2) i c mm Q ⟨fun q => by omega, fun _ => h mm g1 g2 g3 (fun y => ?_) (fun x x1 x2 => ?_)⟩
      · rw [g5, show c = 8 by omega]
      · rw [g6 x x1 x2]
        unfold dyN
        have : x % 8 < c := by omega
        simp only [this, true_and]
    | succ k ih =>
      intro c mm c0 ck g1 g2 g3 g4 g5 g6
      have hw : w32 (w32 (i * 8) + c) = 8 * i + c := by rw [w32_id (z := i * 8) (by omega) (by omega), w32_id (by omega) (by omega)]; omega
      have h92 := g4 c c0 (by omega)
      refine kX1_hear_30 (d + 2) i c mm Q ⟨fun q => ⟨by omega, by rw [hw]; omega, fun g => ?_, fun g => ?_⟩, fun q => by omega⟩
      · rw [hw, w32_id (z := c + 1) (by omega) (by omega)]
        refine ih (c + 1) _ (by omega) (by omega) (fun q hq => by rw [up_ne (by omega)]; exact g1 q hq) (by rw [up_ne (by omega)]; exact g2) (fun x => by rw [up_ne (by omega)]; exact g3 x) (fun y y1 y2 => by rw [up_ne (by omega)]; exact g4 y y1 y2) (fun y => ?_) (fun x x1 x2 => ?_)
        · rw [up_eq, g5]
          by_cases hy : y = 8 * i + c
          · rw [if_pos hy, if_pos (by omega), h92, show (y - 8 * i).toNat = c.toNat by omega]
          · rw [if_neg hy]
            by_cases hy2 : 8 * i ≤ y ∧ y < 8 * i + c
            · rw [if_pos hy2, if_pos (by omega)]
            · rw [if_neg hy2, if_neg (by omega)]
        · rw [up_ne (by omega), g6 x x1 x2]
          by_cases hx : x % 8 < c ∧ T.getD (x % 8).toNat (-1) = x / 8
          · rw [if_pos hx, if_pos ⟨by omega, hx.2⟩]
          · rw [if_neg hx, if_neg]
            rintro ⟨q1, q2⟩
            by_cases hxc : x % 8 = c
            · rw [hxc, ← h92, g] at q2; omega
            · exact hx ⟨by omega, q2⟩
      · have hr2 : 0 ≤ mm 91 c ∧ mm 91 c < 8 := by
          rw [h92] at g ⊢
          rcases rng c c0 (by omega) with w | w
          · exact absurd w g
          · exact w
        have hw2 : w32 (w32 (mm 91 c * 8) + c) = 8 * mm 91 c + c := by rw [w32_id (z := mm 91 c * 8) (by omega) (by omega), w32_id (by omega) (by omega)]; omega
        rw [hw, hw2, w32_id (z := c + 1) (by omega) (by omega)]
        refine ⟨by omega, ih (c + 1) _ (by omega) (by omega) (fun q hq => by rw [up_ne (by omega), up_ne (by omega)]; exact g1 q hq) (by rw [up_ne (by omega), up_ne (by omega)]; exact g2) (fun x => by rw [up_ne (by omega), up_ne (by omega)]; exact g3 x) (fun y y1 y2 => by rw [up_ne (by omega), up_ne (by omega)]; exact g4 y y1 y2) (fun y => ?_) (fun x x1 x2 => ?_)⟩
        · rw [up_ne (by omega), up_eq, g5]
          by_cases hy : y = 8 * i + c
          · rw [if_pos hy, if_pos (by omega), h92, show (y - 8 * i).toNat = c.toNat by omega]
          · rw [if_neg hy]
            by_cases hy2 : 8 * i ≤ y ∧ y < 8 * i + c
            · rw [if_pos hy2, if_pos (by omega)]
            · rw [if_neg hy2, if_neg (by omega)]
        · rw [up_eq, up_ne (by omega), g6 x x1 x2]
          by_cases hx0 : x = 8 * mm 91 c + c
          · rw [if_pos hx0, if_pos]
            refine ⟨by omega, ?_⟩
            rw [show x % 8 = c by omega, ← h92]
            omega
          · rw [if_neg hx0]
            by_cases hx : x % 8 < c ∧ T.getD (x % 8).toNat (-1) = x / 8
            · rw [if_pos hx, if_pos ⟨by omega, hx.2⟩]
            · rw [if_neg hx, if_neg]
              rintro ⟨q1, q2⟩
              by_cases hxc : x % 8 = c
              · rw [hxc, ← h92] at q2; omega
              · exact hx ⟨by omega, q2⟩
  refine loop 8 0 _ (by omega) (by omega) (fun q hq => ?_) up_same (fun x => ?_) (fun y y1 y2 => ?_) (fun y => ?_) (fun x x1 x2 => ?_)
  · rw [up_ne (by omega), up_ne (by omega)]; exact f1 q (by omega)
  · rw [up_ne (by omega), up_eq, e66, f1 89 (by omega)]
  · rw [up_ne (by omega), up_ne (by omega)]; exact p1 y y1 y2
  · rw [up_ne (by omega), up_ne (by omega), f1 90 (by omega), if_neg (by omega)]
  · rw [up_ne (by omega), up_ne (by omega), f1 92 (by omega), if_neg (by omega)]
/-- the plan by other marks -/
theorem alk_mk {m mm : jM} {mk : Int → Int} (h : Inv m) (pl : iPl m) (e0 : mm 62 0 = m 54 0) (e64 : ∀ x : Int, 0 ≤ x → x < 64 → mm 64 x = m 56 x) (eo : ∀ c : Int, 0 ≤ c → c < 8 → mk8 (mm 65 c) ∧ ∀ j : Int, 0 ≤ j → j < 8 → (pO (mm 65) j c = true ↔ mm 64 (8 * j + c) ≠ -4611686018427387904 ∧ mk (8 * j + c) ≠ 1 ∧ noFo mk j c)) :
    alk (pO (mm 65)) (rB (mm 64)) (bt (mm 62 0)) (gO (rJ (m 104)) (rC (m 104)) (rBu m) mk) (rBu m) (rC (m 104)) := by
  have e56 : ∀ j c : Int, 0 ≤ j → j < 8 → 0 ≤ c → c < 8 → mm 64 (8 * j + c) = if (rJ (m 104) j = true ∧ rC (m 104) c = true) ∧ rBu m j c ≠ -1 then rBu m j c else -4611686018427387904 := by
    intro j c j1 j2 c1 c2
    rw [e64 _ (by omega) (by omega), pl.2.2.2.1 _ (by omega) (by omega), show (8 * j + c) / 8 = j by omega, show (8 * j + c) % 8 = c by omega]
  have key : ∀ j c : Int, 0 ≤ j → j < 8 → 0 ≤ c → c < 8 → (mm 64 (8 * j + c) ≠ -4611686018427387904 ↔ (rJ (m 104) j = true ∧ rC (m 104) c = true) ∧ rBu m j c ≠ -1) := by
    intro j c j1 j2 c1 c2
    rw [e56 j c j1 j2 c1 c2]
    have := Inv_bb h j1 j2 c1 c2
    by_cases g : (rJ (m 104) j = true ∧ rC (m 104) c = true) ∧ rBu m j c ≠ -1
    · rw [if_pos g]; exact ⟨fun _ => g, fun _ => by omega⟩
    · rw [if_neg g]; exact ⟨fun w => absurd rfl w, fun w => absurd w g⟩
  refine ⟨fun c c1 c2 => by rw [e0]; exact pl.2.2.1.1 c c1 c2, fun j c j1 j2 c1 c2 => bool_eq ?_, fun j c j1 j2 c1 c2 hO => ?_⟩
  · rw [gO_iff, (eo c c1 c2).2 j j1 j2, key j c j1 j2 c1 c2]
    constructor
    · rintro ⟨⟨⟨a, b⟩, c⟩, e, f⟩; exact ⟨a, b, c, e, f⟩
    · rintro ⟨a, b, c, e, f⟩; exact ⟨⟨⟨a, b⟩, c⟩, e, f⟩
  · have w := (key j c j1 j2 c1 c2).mp (((eo c c1 c2).2 j j1 j2).mp hO).1
    show mm 64 (8 * j + c) = _
    rw [e56 j c j1 j2 c1 c2, if_pos w]
theorem noFo_c {mk mk' : Int → Int} (hm : ∀ x : Int, 0 ≤ x → x < 64 → mk x = mk' x) {j c : Int} (j1 : 0 ≤ j) (j2 : j < 8) (c1 : 0 ≤ c) (c2 : c < 8) : noFo mk j c ↔ noFo mk' j c := by
  unfold noFo
  constructor
  · intro h k k1 k2
    rw [← hm (8 * j + k) (by omega) (by omega), ← hm (8 * k + c) (by omega) (by omega)]
    exact h k k1 k2
  · intro h k k1 k2
    rw [hm (8 * j + k) (by omega) (by omega), hm (8 * k + c) (by omega) (by omega)]
    exact h k k1 k2
theorem dy_B {m : jM} (h : Inv m) (mk : Int → Int) : dpB (gO (rJ (m 104)) (rC (m 104)) (rBu m) mk) (rBu m) := gO_B (fun j c j1 j2 c1 c2 => Inv_bb h j1 j2 c1 c2)
theorem dyF_get {m : jM} (h : Inv m) {mk : Int → Int} (hv : (dpt 0 (gO (rJ (m 104)) (rC (m 104)) (rBu m) mk) (rBu m) (rC (m 104)) 8 0).1 ≠ dpF) : (bst (gO (rJ (m 104)) (rC (m 104)) (rBu m) mk) (rBu m) (rC (m 104)) 8 0)[0]? = some (dyF (rJ (m 104)) (rC (m 104)) (rBu m) mk) := by
  obtain ⟨T, hT⟩ := bst_get (dy_B h mk) (Int.le_refl 0) ((dp_pos (dy_B h mk)).mp hv)
  unfold dyF
  have hT' : (bst (gO (rJ (m 104)) (rC (m 104)) (rBu m) mk) (rBu m) (rC (m 104)) 8 0)[0]? = some T := hT
  rw [hT']
  rfl
theorem s_write {d : Nat} {m : jM} {Q : Int → jM → Prop} (h : Inv m) (pl : iPl m) (hQ : ∀ m' : jM, (∀ q, ¬ (62 ≤ q ∧ q ≤ 69) → ¬ (88 ≤ q ∧ q ≤ 92) → m' q = m q) → iDy m' → Q 0 m') : jK (d + 6) zX1_write [jO 1 88, jO 4 54, jO 4 62, jY 0 64 4] m Q := by
  generalize hJ : rJ (m 104) = J
  generalize hC : rC (m 104) = C
  generalize hb : rBu m = bu
  have mkE : ∀ x : Int, 0 ≤ x → x < 64 → m 4 x = m 107 x := fun x x1 x2 => (h.2.2.2.1 x x1 x2).1.symm
  have loop : ∀ (k dd : Nat) (i : Int) (mm : jM), i = dd → dd + k = 8 → (∀ q, ¬ (62 ≤ q ∧ q ≤ 69) → ¬ (88 ≤ q ∧ q ≤ 92) → mm q = m q) → mm 62 0 = m 54 0 → (∀ x : Int, 0 ≤ x → x < 64 → mm 64 x = m 56 x) → (∀ x : Int, 0 ≤ x → x < 64 → mm 92 x = dyM J C bu (m 107) dd x) → mm 88 0 = dd → (∀ e : Nat, e < dd → dyV J C bu (m 107) e ≠ dpF) → (∀ e : Nat, e < dd → mm 89 e = dyV J C bu (m 107) e ∧ ∀ c : Int, 0 ≤ c → c < 8 → mm 90 (8 * (e : Int) + c) = (dyF J C bu (dyM J C bu (m 107) e)).getD c.toNat (-1)) → aX1_write_28 (d + 5) 0 i mm Q := by
    have fin : ∀ (dd : Nat) (mm : jM), (∀ q, ¬ (62 ≤ q ∧ q ≤ 69) → ¬ (88 ≤ q ∧ q ≤ 92) → mm q = m q) → mm 88 0 = dd → dd ≤ 8 → (∀ e : Nat, e < dd → dyV J C bu (m 107) e ≠ dpF) → (dd < 8 → dyV J C bu (m 107) dd = dpF) → (∀ e : Nat, e < dd → mm 89 e = dyV J C bu (m 107) e ∧ ∀ c : Int, 0 ≤ c → c < 8 → mm 90 (8 * (e : Int) + c) = (dyF J C bu (dyM J C bu (m 107) e)).getD c.toNat (-1)) → Q 0 mm := by
      intro dd mm g1 g2 g3 g4 g5 g6
      refine hQ mm g1 ?_
      unfold iDy
      rw [g1 104 (by omega) (by omega), g1 107 (by omega) (by omega), rBu_q (fun q a b => g1 q (by omega) (by omega)), hJ, hC, hb]
      exact ⟨dd, g2, g3, g4, g5, g6⟩
    intro k
    induction k with
    | zero =>
      intro dd i mm hi hk g1 g2 g3 g4 g5 g6 g7
      exact gX1_write_28 (d + 5) 0 i mm Q ⟨fun q => by omega, fun _ => fin dd mm g1 g5 (by omega) g6 (fun w => by omega) g7⟩
    | succ k ih =>
      intro dd i mm hi hk g1 g2 g3 g4 g5 g6 g7
      refine gX1_write_28 (d + 5) 0 i mm Q ⟨fun q => ⟨fun _ => ?_, fun w => absurd rfl w⟩, fun q => by omega⟩
      refine jK_deep (show (d + 3) + 2 ≤ d + 5 by omega) (s_openBy (p := 62) (y := 92) (by omega) (fun m1 f1 o1 => ?_))
      have f1' : ∀ q, q ≠ 65 → m1 q = mm q := f1
      have al : alk (pO (m1 65)) (rB (m1 64)) (bt (m1 62 0)) (gO J C bu (dyM J C bu (m 107) dd)) bu C := by
        rw [← hJ, ← hC, ← hb]
        refine alk_mk h pl (by rw [f1' 62 (by omega)]; exact g2) (fun x x1 x2 => by rw [f1' 64 (by omega)]; exact g3 x x1 x2) (fun c c1 c2 => ⟨(o1 c c1 c2).1, fun j j1 j2 => ?_⟩)
        have o2 := (o1 c c1 c2).2 j j1 j2
        rw [hJ, hC, hb, f1' 64 (by omega)]
        rw [show pO (m1 65) j c = pO (m1 (62 + 3)) j c from rfl, o2, noFo_c g4 j1 j2 c1 c2, g4 _ (by omega) (by omega)]
        exact Iff.rfl
      have hB1 : dpB (pO (m1 65)) (rB (m1 64)) := by
        have := dy_B h (dyM J C bu (m 107) dd)
        rw [hJ, hC, hb] at this
        exact alk_B (alk_s al) this
      refine jK_deep (show (d + 2) + 3 ≤ d + 5 by omega) (s_weigh (p := 62) (by rw [f1' 62 (by omega), g2, pl.1]; exact h.1.2.1) (fun c c1 c2 => (o1 c c1 c2).1) hB1 (fun m2 f2 e2 w2 => ?_))
      have f2' : ∀ q, q ≠ 62 → q ≠ 63 → q ≠ 66 → q ≠ 67 → m2 q = m1 q := f2
      have w0 := (pW_0 w2).1
      have e620 : m2 62 0 = m1 62 0 := e2 0 (by omega) (by omega)
      have al2 : alk (pO (m2 65)) (rB (m2 64)) (bt (m2 62 0)) (gO J C bu (dyM J C bu (m 107) dd)) bu C := by
        rw [f2' 65 (by omega) (by omega) (by omega) (by omega), f2' 64 (by omega) (by omega) (by omega) (by omega), e620]
        exact al
      have w0' : m2 66 0 = toN (dyV J C bu (m 107) dd) := by
        unfold dyV
        rw [← alk_dp al2 0 (Nat.le_refl 8) 0]
        exact w0
      have fr2 : ∀ q, ¬ (62 ≤ q ∧ q ≤ 69) → ¬ (88 ≤ q ∧ q ≤ 92) → m2 q = m q := fun q a b => by rw [f2' q (by omega) (by omega) (by omega) (by omega), f1' q (by omega)]; exact g1 q a b
      have same : ∀ q, 88 ≤ q → m2 q = mm q := fun q a => by rw [f2' q (by omega) (by omega) (by omega) (by omega), f1' q (by omega)]
      have hR : dpR 8 (dpt 0 (gO J C bu (dyM J C bu (m 107) dd)) bu C 8 0) := by
        have := dy_B h (dyM J C bu (m 107) dd)
        rw [hJ, hC, hb] at this
        exact dpt_r this 8 (Nat.le_refl 8) 0 mk_0
      refine ⟨by omega, fun g => ⟨fun w => absurd w (by omega), fun _ => ?_⟩, fun g => ⟨fun _ => ?_, fun w => absurd rfl w⟩⟩
      · have hF : dyV J C bu (m 107) dd = dpF := by
          rw [w0'] at g
          exact (toN_no hR).mp g
        rw [w32_id (by omega) (by omega)]
        have hfin := fin dd m2 fr2 (by rw [same 88 (by omega)]; exact g5) (by omega) g6 (fun _ => hF) (fun e he => by rw [same 89 (by omega), same 90 (by omega)]; exact g7 e he)
        exact gX1_write_28 (d + 5) 1 (i + 1) m2 Q ⟨fun q => ⟨fun w => absurd w (by omega), fun _ => hfin⟩, fun _ => hfin⟩
      · have hF : dyV J C bu (m 107) dd ≠ dpF := by
          intro w
          rw [w0', w, toN_F] at g
          exact g rfl
        have hT := dyF_get h (mk := dyM J C bu (m 107) dd) (by rw [hJ, hC, hb]; exact hF)
        rw [hJ, hC, hb, ← alk_bst al2 (Nat.le_refl 8) 0] at hT
        have hB2 : dpB (pO (m2 65)) (rB (m2 64)) := by
          rw [f2' 65 (by omega) (by omega) (by omega) (by omega), f2' 64 (by omega) (by omega) (by omega) (by omega)]
          exact hB1
        refine jK_deep (show (d + 2) + 3 ≤ d + 5 by omega) (s_hear (by omega) w2 (fun c c1 c2 => by rw [f2' 65 (by omega) (by omega) (by omega) (by omega)]; exact (o1 c c1 c2).1) hB2 hT (fun m3 f3 a89 a90 a91 a93 => ?_))
        rw [w32_id (by omega) (by omega)]
        refine ih (dd + 1) (i + 1) m3 (by omega) (by omega) (fun q a b => by rw [f3 q b]; exact fr2 q a b) (by rw [f3 62 (by omega), e620, f1' 62 (by omega)]; exact g2) (fun x x1 x2 => by rw [f3 64 (by omega), f2' 64 (by omega) (by omega) (by omega) (by omega), f1' 64 (by omega)]; exact g3 x x1 x2) (fun x x1 x2 => ?_) (by rw [a89]; omega) (fun e he => ?_) (fun e he => ?_)
        · rw [a93 x x1 x2]
          show dyN (m2 92) _ x = dyN (dyM J C bu (m 107) dd) _ x
          unfold dyN
          rw [same 92 (by omega), g4 x x1 x2]
        · by_cases hed : e = dd
          · rw [hed]; exact hF
          · exact g6 e (by omega)
        · by_cases hed : e = dd
          · rw [hed]
            refine ⟨?_, fun c c1 c2 => ?_⟩
            · rw [a90, if_pos (by omega), w0', toN_n hF]
            · rw [a91, if_pos (by omega), show (8 * (dd : Int) + c - 8 * i).toNat = c.toNat by omega]
          · have g7e := g7 e (by omega)
            refine ⟨?_, fun c c1 c2 => ?_⟩
            · rw [a90, if_neg (by omega), same 89 (by omega)]; exact g7e.1
            · rw [a91, if_neg (by omega), same 90 (by omega)]; exact g7e.2 c c1 c2
  refine gX1_write (d + 5) 64 4 m Q ⟨by omega, ?_⟩
  have c93 : ∀ q, q ≠ 92 → jCp m 4 0 92 0 64 q = m q := fun q hq => by
    funext i
    unfold jCp
    rw [if_neg (by omega)]
  refine jK_deep (show (d + 4) + 1 ≤ d + 5 by omega) (s_take62 (fun m1 f1 e1 _ e64 _ => ?_))
  refine loop 8 0 0 _ (by omega) (by omega) (fun q a b => ?_) ?_ (fun x x1 x2 => ?_) (fun x x1 x2 => ?_) ?_ (fun e he => by omega) (fun e he => by omega)
  · rw [up_ne (by omega), f1 q (by omega) (by omega) (by omega), c93 q (by omega)]
  · rw [up_ne (by omega), e1, c93 54 (by omega)]
  · rw [up_ne (by omega), e64 x x1 x2, c93 56 (by omega)]
  · rw [up_ne (by omega), f1 92 (by omega) (by omega) (by omega)]
    unfold jCp
    rw [if_pos (by omega), show (0 + (x - 0) : Int) = x by omega, mkE x x1 x2]
    rfl
  · rw [up_same]; rfl
theorem r_diary {d : Nat} {m : jM} {Q : Int → jM → Prop} (h : Inv m) (hQ : ∀ m', Inv m' → m' 0 12 = 1 → iPl m' → iDy m' → cQt m m' → Q 0 m') (hd : 15 ≤ d) : jK d zX10_refreshDiary [jO 10 0] m Q := by
  refine jK_deep (show 14 + 1 ≤ d by omega) (gX10_refreshDiary 14 m Q (r_plan h (fun m1 h1 p1 pl1 q1 => ⟨fun g => ?_, fun g => ?_⟩) (by omega)))
  · refine jK_deep (show 4 + 6 ≤ 14 by omega) (s_write h1 pl1 (fun m2 f2 d2 => ?_))
    have fr : ∀ q, q ≠ 0 → ¬ (62 ≤ q ∧ q ≤ 69) → ¬ (88 ≤ q ∧ q ≤ 92) → jUp m2 0 15 1 q = m1 q := fun q q0 q1 q2 => by rw [up_ne q0, f2 q q1 q2]
    have fz : ∀ j, j ≠ 15 → jUp m2 0 15 1 0 j = m1 0 j := fun j hj => by rw [up_oth hj, f2 0 (by omega) (by omega)]
    have pl2 : iPl (jUp m2 0 15 1) := iPl_fr pl1 (fun q g => fr q (by omega) (by omega) (by omega))
    have dy2 : iDy (jUp m2 0 15 1) := iDy_fr d2 (fun q g => up_ne (by omega))
    obtain ⟨a1, a2, a3, a4, a5, a6, a7, a8, a9, a10, ⟨b1, b2, b3, b4⟩⟩ := id h1
    have i2 : Inv (jUp m2 0 15 1) := by
      refine Inv_ca h1 (fun q a b => fr q a (by omega) (by omega)) (fun q a b => fr q (by omega) (by omega) (by omega)) (fz 2 (by omega)) ?_
      have w12 : jUp m2 0 15 1 0 12 = 1 := by rw [fz 12 (by omega)]; exact p1
      refine ⟨Or.inr ⟨w12, pl2⟩, ?_, ?_, Or.inr ⟨up_same, w12, dy2⟩⟩
      · rw [fz 13 (by omega)]
        exact b2.imp id (fun x => ⟨x.1, w12, iSs_fr x.2.2 (fun q g => fr q (by omega) (by omega) (by omega))⟩)
      · rw [fz 14 (by omega)]
        exact b3.imp id (fun x => ⟨x.1, w12, iNx_fr x.2.2 (fun q g => fr q (by omega) (by omega) (by omega))⟩)
    exact hQ _ i2 (by rw [fz 12 (by omega)]; exact p1) pl2 dy2 (cQt_t q1 ⟨fun q a b => fr q a (by omega) (by omega), fun j a => fz j (by omega)⟩)
  · refine hQ m1 h1 p1 pl1 ?_ q1
    obtain ⟨a1, a2, a3, a4, a5, a6, a7, a8, a9, a10, ⟨b1, b2, b3, b4⟩⟩ := id h1
    rcases b4 with x | x
    · exact absurd x g
    · exact x.2.2

/-! the host's sheets -/
theorem Inv_s {m m' : jM} (h : Inv m) (f : ∀ q, ¬ (95 ≤ q ∧ q ≤ 102) → ¬ (157 ≤ q ∧ q ≤ 159) → m' q = m q) (hs : iSh m') : Inv m' := by
  obtain ⟨a1, a2, a3, a4, a5, a6, a7, a8, a9, a10, a11⟩ := h
  have g : ∀ q, q < 95 ∨ (102 < q ∧ q < 157) → m' q = m q := fun q hq => f q (by omega) (by omega)
  exact ⟨by rw [g 1 (by omega), g 104 (by omega)]; exact a1, by rw [g 2 (by omega), g 105 (by omega)]; exact a2, by rw [g 3 (by omega), g 106 (by omega)]; exact a3, by rw [g 4 (by omega), g 107 (by omega)]; exact a4,
    iRu_fr a5 a6 (g 5 (by omega)) (fun q h => g q (by omega)) (fun q a b => g q (by omega)), iPr_fr a6 (g 5 (by omega)) (by rw [g 45 (by omega)]), iTa_fr a7 (by rw [g 45 (by omega)]) (by rw [g 103 (by omega)]) (g 46 (by omega)) (g 118 (by omega)),
    iRo_fr a8 (by rw [g 103 (by omega)]) (fun q h => g q (by omega)), iIm_fr a9 (by rw [g 0 (by omega)]) (by rw [g 103 (by omega)]) (fun q h => g q (by omega)), hs, iCa_fr a11 (fun j a b => by rw [g 0 (by omega)]) (fun q h => g q (by omega))⟩
theorem st_sheet {m : jM} (h : Inv m) (s w n : Int) : stp zX10_sheet zX11_sheet [jI s, jI w, jI n] m := by
  have hsh := Inv_sh h
  have other : ∀ v, (¬ (0 ≤ s ∧ s ≤ 3) ∨ ¬ (-1 ≤ w ∧ w ≤ 2) ∨ (w ≠ -1 ∧ 40 < n)) ∧ v = -2 ∨ ((0 ≤ s ∧ s ≤ 3) ∧ (-1 ≤ w ∧ w ≤ 2) ∧ w ≠ -1 ∧ ¬ 40 < n ∧ n < 0) ∧ v = -14 → (∀ q, q < 0 → m q = m q) ∧ jK 900 zX11_sheet [jO 11 103, jI s, jI w, jI n] m (fun v' m2 => v = v' ∧ Inv m2 ∧ ∀ q, q < 0 → m2 q = m q) := by
    intro v hv
    refine ⟨fun _ _ => rfl, gX11_sheet 899 s w n m _ (s_isSheetR ⟨fun g => ⟨?_, h, fun _ _ => rfl⟩, fun g => s_in ⟨fun g2 => ⟨?_, h, fun _ _ => rfl⟩, fun g2 => ?_⟩⟩)⟩
    · rw [bI_0] at g; omega
    · rw [bI_0] at g2; omega
    rw [bI_0, Classical.not_not] at g g2
    refine ⟨fun w1 => by omega, fun w1 => ⟨fun n1 => ⟨by omega, h, fun _ _ => rfl⟩, fun n1 => ⟨fun y => absurd y w1, fun _ => ⟨fun n2 => ⟨by omega, h, fun _ _ => rfl⟩, fun n2 => by omega⟩⟩⟩⟩
  have main : 0 ≤ s ∧ s ≤ 3 → -1 ≤ w ∧ w ≤ 2 → (w ≠ -1 → 0 ≤ n ∧ n ≤ 40) → aX10_sheet_46 899 s w n m (fun v m1 => (∀ q, q < 0 → m1 q = m q) ∧ jK 900 zX11_sheet [jO 11 103, jI s, jI w, jI n] m1 (fun v' m2 => v = v' ∧ Inv m2 ∧ ∀ q, q < 0 → m2 q = m q)) := by
    intro gs gw gn
    have key : ∀ n', (w = -1 → n' = 0) → (w ≠ -1 → n' = n) → jK 899 zX7_become [jO 7 (95 + 2 * s), jI w, jI n'] m (fun v2 m2 => (∀ q, q < 0 → m2 q = m q) ∧ jK 900 zX11_sheet [jO 11 103, jI s, jI w, jI n] m2 (fun v' m3 => 1 = v' ∧ Inv m3 ∧ ∀ q, q < 0 → m3 q = m q)) := by
      intro n' hn1 hn2
      have n40 : 0 ≤ n' ∧ n' ≤ 40 := by
        by_cases hw : w = -1
        · have := hn1 hw; omega
        · have := hn2 hw; have := gn hw; omega
      refine gX7_become 898 (95 + 2 * s) w n' m _ (s_fillL (by omega) ?_)
      generalize hm2 : jFil (jUp (jUp m (95 + 2 * s) 0 w) (95 + 2 * s) 1 n') (95 + 2 * s + 1) 40 0 = m2
      have f2 : ∀ q, q ≠ 95 + 2 * s → q ≠ 95 + 2 * s + 1 → m2 q = m q := fun q a b => by
        rw [← hm2]; funext i; unfold jFil; rw [if_neg (by omega), up_ne a, up_ne a]
      have e0 : m2 (95 + 2 * s) 0 = w := by rw [← hm2]; unfold jFil; rw [if_neg (by omega), up_oth (by omega), up_same]
      have e1 : m2 (95 + 2 * s) 1 = n' := by rw [← hm2]; unfold jFil; rw [if_neg (by omega), up_same]
      have ei : ∀ i : Int, 0 ≤ i → i < 40 → m2 (95 + 2 * s + 1) i = 0 := fun i i1 i2 => by rw [← hm2]; unfold jFil; rw [if_pos (by omega)]
      have l73 : ∀ (k : Nat) (i : Int) (mm : jM), 0 ≤ i → i + k = 40 → (∀ q, q ≠ 157 → q ≠ 158 → q ≠ 159 → mm q = m2 q) → (∀ y, mm 157 y = if y = s then w else m2 157 y) → (∀ y, mm 158 y = if y = s then n' else m2 158 y) → (∀ y, mm 159 y = if 40 * s ≤ y ∧ y < 40 * s + i then 0 else m2 159 y) → aX11_sheet_73 899 s i mm (fun v' m3 => 1 = v' ∧ Inv m3 ∧ ∀ q, q < 0 → m3 q = m q) := by
        intro k
        induction k with
        | zero =>
          intro i mm i0 ik f a158 a159 a160
          refine gX11_sheet_73 899 s i mm _ ⟨fun q => by omega, fun _ => ⟨rfl, ?_, fun q hq => by rw [f q (by omega) (by omega) (by omega)]; exact f2 q (by omega) (by omega)⟩⟩
          refine Inv_s h (fun q a b => by rw [f q (by omega) (by omega) (by omega)]; exact f2 q (by omega) (by omega)) (fun s' s1 s2 => ?_)
          obtain ⟨b1, b2, b3, b4, b5, b6⟩ := hsh s' s1 s2
          rw [a158, a159, f 94 (by omega) (by omega) (by omega), f2 94 (by omega) (by omega), f (95 + 2 * s') (by omega) (by omega) (by omega), f (95 + 2 * s' + 1) (by omega) (by omega) (by omega)]
          by_cases hs : s' = s
          · rw [if_pos hs, if_pos hs, hs, e0, e1]
            refine ⟨by rw [← hs]; exact b1, rfl, gw, rfl, n40, fun x x1 x2 => ?_⟩
            rw [a160, if_pos (by omega), ei x x1 (by omega)]
          · rw [if_neg hs, if_neg hs, f2 157 (by omega) (by omega), f2 158 (by omega) (by omega), f2 (95 + 2 * s') (by omega) (by omega), f2 (95 + 2 * s' + 1) (by omega) (by omega)]
            refine ⟨b1, b2, b3, b4, b5, fun x x1 x2 => ?_⟩
            rw [a160, if_neg (by omega), f2 159 (by omega) (by omega)]
            exact b6 x x1 x2
        | succ k ih =>
          intro i mm i0 ik f a158 a159 a160
          have hw : w32 (w32 (40 * s) + i) = 40 * s + i := by rw [w32_id (z := 40 * s) (by omega) (by omega), w32_id (by omega) (by omega)]
          refine gX11_sheet_73 899 s i mm _ ⟨fun q => ?_, fun q => by omega⟩
          rw [hw, w32_id (z := i + 1) (by omega) (by omega)]
          refine ⟨by omega, ih (i + 1) _ (by omega) (by omega) (fun q a b c => by rw [up_ne c]; exact f q a b c) (fun y => by rw [up_ne (by omega)]; exact a158 y) (fun y => by rw [up_ne (by omega)]; exact a159 y) (fun y => ?_)⟩
          rw [up_eq, a160]
          by_cases hy : y = 40 * s + i
          · rw [if_pos hy, if_pos (by omega)]
          · rw [if_neg hy]
            by_cases hy2 : 40 * s ≤ y ∧ y < 40 * s + i
            · rw [if_pos hy2, if_pos (by omega)]
            · rw [if_neg hy2, if_neg (by omega)]
      have l47 : aX11_sheet_47 899 s w n m2 (fun v' m3 => 1 = v' ∧ Inv m3 ∧ ∀ q, q < 0 → m3 q = m q) := by
        have go : ∀ x, x = n' → aX11_sheet_73 899 s 0 (jUp (jUp m2 157 s w) 158 s x) (fun v' m3 => 1 = v' ∧ Inv m3 ∧ ∀ q, q < 0 → m3 q = m q) := by
          intro x hx
          subst hx
          exact l73 40 0 _ (by omega) (by omega) (fun q a b _ => by rw [up_ne b, up_ne a]) (fun y => by rw [up_ne (by omega), up_eq]) (fun y => by rw [up_eq, up_ne (by omega)]) (fun y => by rw [up_ne (by omega), up_ne (by omega), if_neg (by omega)])
        exact gX11_sheet_47 899 s w n m2 _ ⟨by omega, fun w1 => ⟨by omega, go 0 (hn1 w1).symm⟩, fun w1 => ⟨by omega, go n (hn2 w1).symm⟩⟩
      refine ⟨fun q hq => f2 q (by omega) (by omega), gX11_sheet 899 s w n m2 _ (s_isSheetR ⟨fun x => ?_, fun _ => s_in ⟨fun x => ?_, fun _ => ⟨fun w1 => ⟨fun _ => l47, fun y => absurd w1 y⟩, fun w1 => ⟨fun y => ?_, fun _ => ⟨fun y => absurd y w1, fun _ => ⟨fun y => ?_, fun _ => l47⟩⟩⟩⟩⟩⟩)⟩
      · rw [bI_0] at x; exact absurd gs x
      · rw [bI_0] at x; exact absurd gw x
      · have := gn w1; omega
      · have := gn w1; omega
    refine gX10_sheet_46 899 s w n m _ ⟨by omega, ?_⟩
    rw [(hsh s gs.1 (by omega)).1]
    exact ⟨fun w1 => key 0 (fun _ => rfl) (fun y => absurd w1 y), fun w1 => key n (fun y => absurd y w1) (fun _ => rfl)⟩
  refine gX10_sheet 899 s w n m _ (s_isSheetC ⟨fun g => ?_, fun g => ⟨fun g2 => other _ (Or.inl ⟨Or.inr (Or.inl (by omega)), rfl⟩), fun g2 => ⟨fun g3 => other _ (Or.inl ⟨Or.inr (Or.inl (by omega)), rfl⟩), fun g3 => ⟨fun w1 => ⟨fun _ => ?_, fun y => absurd w1 y⟩, fun w1 => ⟨fun g4 => other _ (Or.inl ⟨Or.inr (Or.inr ⟨w1, g4⟩), rfl⟩), fun g4 => ⟨fun y => absurd y w1, fun _ => ⟨fun g5 => ?_, fun g5 => ?_⟩⟩⟩⟩⟩⟩⟩)
  · rw [bI_0] at g; exact other _ (Or.inl ⟨Or.inl g, rfl⟩)
  · rw [bI_0, Classical.not_not] at g; exact main g (by omega) (fun y => absurd w1 y)
  · rw [bI_0, Classical.not_not] at g; exact other _ (Or.inr ⟨⟨g, by omega, w1, g4, g5⟩, rfl⟩)
  · rw [bI_0, Classical.not_not] at g; exact main g (by omega) (fun _ => by omega)
theorem st_put {m : jM} (h : Inv m) (s i v : Int) : stp zX10_put zX11_put [jI s, jI i, jL v] m := by
  have hsh := Inv_sh h
  have refl : ∀ u, ((¬ (0 ≤ s ∧ s ≤ 3)) ∧ u = -2) ∨ ((0 ≤ s ∧ s ≤ 3) ∧ m 157 s = -1 ∧ u = -11) ∨ ((0 ≤ s ∧ s ≤ 3) ∧ m 157 s ≠ -1 ∧ ¬ (0 ≤ i ∧ i < m 158 s) ∧ u = -12) → (∀ q, q < 0 → m q = m q) ∧ jK 900 zX11_put [jO 11 103, jI s, jI i, jL v] m (fun v' m2 => u = v' ∧ Inv m2 ∧ ∀ q, q < 0 → m2 q = m q) := by
    intro u hu
    refine ⟨fun _ _ => rfl, gX11_put 899 s i v m _ (s_isSheetR ⟨fun g => ⟨?_, h, fun _ _ => rfl⟩, fun g => ?_⟩)⟩
    · rw [bI_0] at g; omega
    rw [bI_0, Classical.not_not] at g
    have b := (hsh s g.1 (by omega)).2.2.2
    refine ⟨by omega, fun g2 => ⟨by omega, h, fun _ _ => rfl⟩, fun g2 => ⟨by omega, s_in ⟨fun g3 => ⟨by rw [bI_0, w32_id (by omega) (by omega)] at g3; omega, h, fun _ _ => rfl⟩, fun g3 => ?_⟩⟩⟩
    rw [bI_0, w32_id (by omega) (by omega), Classical.not_not] at g3
    omega
  refine gX10_put 899 s i v m _ (s_isSheetC ⟨fun g => ?_, fun g => ?_⟩)
  · rw [bI_0] at g; exact refl _ (Or.inl ⟨g, rfl⟩)
  rw [bI_0, Classical.not_not] at g
  obtain ⟨b1, b2, b3, b4, b5, b6⟩ := hsh s g.1 (by omega)
  rw [b1]
  refine ⟨by omega, fun w => refl _ (Or.inr (Or.inl ⟨g, by omega, rfl⟩)), fun w => s_holds b5 ⟨fun w2 => ?_, fun w2 => ?_⟩⟩ <;> rw [bI_0] at w2
  · exact refl _ (Or.inr (Or.inr ⟨g, by omega, by omega, rfl⟩))
  have w3 := Classical.not_not.mp w2
  -- both sheets get the same item
  have key : ∀ y, ((m (95 + 2 * s) 0 = 1 ∧ y = w32 v) ∨ (m (95 + 2 * s) 0 = 2 ∧ y = i2b (w32 v)) ∨ (m (95 + 2 * s) 0 ≠ 1 ∧ m (95 + 2 * s) 0 ≠ 2 ∧ y = v)) → (∀ q, q < 0 → jUp m (95 + 2 * s + 1) i y q = m q) ∧ jK 900 zX11_put [jO 11 103, jI s, jI i, jL v] (jUp m (95 + 2 * s + 1) i y) (fun v' m2 => 1 = v' ∧ Inv m2 ∧ ∀ q, q < 0 → m2 q = m q) := by
    intro y hy
    generalize hm1 : jUp m (95 + 2 * s + 1) i y = m1
    have f1 : ∀ q, q ≠ 95 + 2 * s + 1 → m1 q = m q := fun q a => by rw [← hm1, up_ne a]
    have e1 : m1 (95 + 2 * s + 1) = fun x => if x = i then y else m (95 + 2 * s + 1) x := by rw [← hm1, up_fun]
    have fin : Inv (jUp m1 159 (40 * s + i) y) ∧ ∀ q, q < 0 → jUp m1 159 (40 * s + i) y q = m q := by
      refine ⟨Inv_s h (fun q a b => by rw [up_ne (by omega)]; exact f1 q (by omega)) (fun s' s1 s2 => ?_), fun q hq => by rw [up_ne (by omega)]; exact f1 q (by omega)⟩
      obtain ⟨c1, c2, c3, c4, c5, c6⟩ := hsh s' s1 s2
      have u : ∀ q, q ≠ 159 → jUp m1 159 (40 * s + i) y q = m1 q := fun q hq => up_ne hq
      rw [u 94 (by omega), u 157 (by omega), u 158 (by omega), u (95 + 2 * s') (by omega), u (95 + 2 * s' + 1) (by omega), f1 94 (by omega), f1 157 (by omega), f1 158 (by omega), f1 (95 + 2 * s') (by omega)]
      refine ⟨c1, c2, c3, c4, c5, fun x x1 x2 => ?_⟩
      rw [up_eq, f1 159 (by omega)]
      by_cases hs : s' = s
      · rw [hs, e1]
        dsimp only
        by_cases hx : x = i
        · rw [if_pos (by omega), if_pos hx]
        · rw [if_neg (by omega), if_neg hx, ← hs]; exact c6 x x1 x2
      · rw [if_neg (by omega), f1 (95 + 2 * s' + 1) (by omega)]; exact c6 x x1 x2
    refine ⟨fun q hq => f1 q (by omega), gX11_put 899 s i v m1 _ (s_isSheetR ⟨fun x => ?_, fun _ => ?_⟩)⟩
    · rw [bI_0] at x; exact absurd g x
    have hw : w32 (w32 (40 * s) + i) = 40 * s + i := by rw [w32_id (z := 40 * s) (by omega) (by omega), w32_id (by omega) (by omega)]
    rw [f1 157 (by omega), f1 158 (by omega), b2, b4, hw]
    refine ⟨by omega, fun x => by omega, fun _ => ⟨by omega, s_in ⟨fun x => ?_, fun _ => ?_⟩⟩⟩
    · rw [bI_0, w32_id (by omega) (by omega)] at x; omega
    rw [f1 157 (by omega), b2]
    refine ⟨by omega, fun x => ⟨by omega, ?_⟩, fun x => ⟨by omega, fun x2 => ⟨by omega, ?_⟩, fun x2 => ⟨by omega, ?_⟩⟩⟩
    · have : y = v := by omega
      rw [this] at fin; exact ⟨rfl, fin⟩
    · have : y = w32 v := by omega
      rw [this] at fin; exact ⟨rfl, fin⟩
    · have : y = i2b (w32 v) := by omega
      rw [this] at fin; exact ⟨rfl, fin⟩
  exact gX7_set 898 (95 + 2 * s) i v m _ ⟨fun x => ⟨by omega, key _ (Or.inl ⟨x, rfl⟩)⟩, fun x => ⟨fun x2 => ⟨by omega, key _ (Or.inr (Or.inl ⟨x2, rfl⟩))⟩, fun x2 => ⟨by omega, key _ (Or.inr (Or.inr ⟨x, x2, rfl⟩))⟩⟩⟩
def in32 (x : Int) : Prop := -2147483648 ≤ x ∧ x ≤ 2147483647
theorem st_copy {m : jM} (h : Inv m) {s i t j n : Int} (hn : in32 n) : stp zX10_copy zX11_copy [jI s, jI i, jI t, jI j, jI n] m := by
  unfold in32 at hn
  have hsh := Inv_sh h
  have refl : ∀ u, ((¬ ((0 ≤ s ∧ s ≤ 3) ∧ 0 ≤ t ∧ t ≤ 3)) ∧ u = -2) ∨ (((0 ≤ s ∧ s ≤ 3) ∧ 0 ≤ t ∧ t ≤ 3) ∧ (m 157 s = -1 ∨ m 157 t = -1) ∧ u = -11) ∨ (((0 ≤ s ∧ s ≤ 3) ∧ 0 ≤ t ∧ t ≤ 3) ∧ m 157 s ≠ -1 ∧ m 157 t ≠ -1 ∧ m 157 s ≠ m 157 t ∧ u = -13) ∨ (((0 ≤ s ∧ s ≤ 3) ∧ 0 ≤ t ∧ t ≤ 3) ∧ m 157 s ≠ -1 ∧ m 157 t ≠ -1 ∧ m 157 s = m 157 t ∧ ¬ ((0 ≤ i ∧ 0 ≤ n ∧ i + n ≤ m 158 s) ∧ (0 ≤ j ∧ 0 ≤ n ∧ j + n ≤ m 158 t)) ∧ u = -12) → (∀ q, q < 0 → m q = m q) ∧ jK 900 zX11_copy [jO 11 103, jI s, jI i, jI t, jI j, jI n] m (fun v' m2 => u = v' ∧ Inv m2 ∧ ∀ q, q < 0 → m2 q = m q) := by
    intro u hu
    have done : ∀ v', u = v' → u = v' ∧ Inv m ∧ ∀ q, q < 0 → m q = m q := fun v' e => ⟨e, h, fun _ _ => rfl⟩
    refine ⟨fun _ _ => rfl, gX11_copy 899 s i t j n m _ (s_isSheetR ⟨fun g => done _ ?_, fun g => s_isSheetR ⟨fun g2 => done _ ?_, fun g2 => ?_⟩⟩)⟩
    · rw [bI_0] at g; omega
    · rw [bI_0] at g2; omega
    rw [bI_0, Classical.not_not] at g g2
    have bs := (hsh s g.1 (by omega)).2.2.2
    have bt' := (hsh t g2.1 (by omega)).2.2.2
    refine ⟨by omega, fun x => done _ (by omega), fun x => ⟨by omega, fun y => done _ (by omega), fun y => ⟨by omega, by omega, fun z => ⟨fun n1 => done _ (by omega), fun n1 => ⟨fun i1 => done _ (by omega), fun i1 => ⟨fun j1 => done _ (by omega), fun j1 => ⟨by omega, fun o1 => done _ (by rw [w32_id (by omega) (by omega)] at o1; omega), fun o1 => ⟨by omega, fun o2 => done _ (by rw [w32_id (by omega) (by omega)] at o2; omega), fun o2 => ?_⟩⟩⟩⟩⟩, fun z => done _ (by omega)⟩⟩⟩
    rw [w32_id (by omega) (by omega)] at o1 o2
    omega
  refine gX10_copy 899 s i t j n m _ (s_isSheetC ⟨fun g => ?_, fun g => s_isSheetC ⟨fun g2 => ?_, fun g2 => ?_⟩⟩)
  · rw [bI_0] at g; exact refl _ (Or.inl ⟨fun x => g x.1, rfl⟩)
  · rw [bI_0] at g2; exact refl _ (Or.inl ⟨fun x => g2 x.2, rfl⟩)
  rw [bI_0, Classical.not_not] at g g2
  obtain ⟨b1, b2, b3, b4, b5, b6⟩ := hsh s g.1 (by omega)
  obtain ⟨c1, c2, c3, c4, c5, c6⟩ := hsh t g2.1 (by omega)
  rw [b1, c1, ← b2, ← c2]
  refine ⟨by omega, by omega, fun x => refl _ (Or.inr (Or.inl ⟨⟨g, g2⟩, Or.inl x, rfl⟩)), fun x => ⟨fun y => refl _ (Or.inr (Or.inl ⟨⟨g, g2⟩, Or.inr y, rfl⟩)), fun y => ⟨fun z => s_holds b5 ⟨fun w1 => ?_, fun w1 => s_holds c5 ⟨fun w2 => ?_, fun w2 => ?_⟩⟩, fun z => refl _ (Or.inr (Or.inr (Or.inl ⟨⟨g, g2⟩, x, y, z, rfl⟩)))⟩⟩⟩
  · rw [bI_0, ← b4] at w1; exact refl _ (Or.inr (Or.inr (Or.inr ⟨⟨g, g2⟩, x, y, z, fun a => w1 a.1, rfl⟩)))
  · rw [bI_0, ← c4] at w2; exact refl _ (Or.inr (Or.inr (Or.inr ⟨⟨g, g2⟩, x, y, z, fun a => w2 a.2, rfl⟩)))
  rw [bI_0, Classical.not_not, ← b4] at w1
  rw [bI_0, Classical.not_not, ← c4] at w2
  refine ⟨by omega, ?_⟩
  generalize hm1 : jCp m (95 + 2 * s + 1) i (95 + 2 * t + 1) j n = m1
  have f1 : ∀ q, q ≠ 95 + 2 * t + 1 → m1 q = m q := fun q a => by rw [← hm1]; funext y; unfold jCp; rw [if_neg (by omega)]
  have e1 : ∀ y, m1 (95 + 2 * t + 1) y = if j ≤ y ∧ y < j + n then m (95 + 2 * s + 1) (i + (y - j)) else m (95 + 2 * t + 1) y := fun y => by
    rw [← hm1]
    unfold jCp
    by_cases hy : j ≤ y ∧ y < j + n
    · rw [if_pos ⟨rfl, hy⟩, if_pos hy]
    · rw [if_neg (fun a => hy a.2), if_neg hy]
  refine ⟨fun q hq => f1 q (by omega), ?_⟩
  have fin : ∀ mm : jM, (∀ q, q ≠ 159 → mm q = m1 q) → (∀ y, mm 159 y = if 40 * t + j ≤ y ∧ y < 40 * t + j + n then m 159 (40 * s + i + (y - (40 * t + j))) else m 159 y) → n = n ∧ Inv mm ∧ ∀ q, q < 0 → mm q = m q := by
    intro mm f e
    refine ⟨rfl, Inv_s h (fun q a b => by rw [f q (by omega), f1 q (by omega)]) (fun s' s1 s2 => ?_), fun q hq => by rw [f q (by omega), f1 q (by omega)]⟩
    obtain ⟨d1, d2, d3, d4, d5, d6⟩ := hsh s' s1 s2
    rw [f 94 (by omega), f 157 (by omega), f 158 (by omega), f (95 + 2 * s') (by omega), f (95 + 2 * s' + 1) (by omega), f1 94 (by omega), f1 157 (by omega), f1 158 (by omega), f1 (95 + 2 * s') (by omega)]
    refine ⟨d1, d2, d3, d4, d5, fun y y1 y2 => ?_⟩
    rw [e]
    by_cases hs : s' = t
    · rw [hs] at d4 d5 d6 y2 ⊢
      rw [e1]
      by_cases hy : j ≤ y ∧ y < j + n
      · rw [if_pos (by omega), if_pos hy, show 40 * s + i + (40 * t + y - (40 * t + j)) = 40 * s + (i + (y - j)) by omega]
        exact b6 _ (by omega) (by omega)
      · rw [if_neg (by omega), if_neg hy]; exact d6 y y1 y2
    · rw [if_neg (by omega), f1 (95 + 2 * s' + 1) (by omega)]; exact d6 y y1 y2
  have e160 : m1 159 = m 159 := f1 159 (by omega)
  have up : ∀ (k : Nat) (x : Int) (mm : jM), 0 ≤ x → x + k = n → (s = t → ¬ i < j) → (∀ q, q ≠ 159 → mm q = m1 q) → (∀ y, mm 159 y = if 40 * t + j ≤ y ∧ y < 40 * t + j + x then m 159 (40 * s + i + (y - (40 * t + j))) else m 159 y) → aX11_copy_123 899 s i t j n 0 x mm (fun v' m2 => n = v' ∧ Inv m2 ∧ ∀ q, q < 0 → m2 q = m q) := by
    intro k
    induction k with
    | zero =>
      intro x mm x0 xk hd f e
      refine gX11_copy_123 899 s i t j n 0 x mm _ ⟨fun q => by omega, fun _ => fin mm f ?_⟩
      rw [show n = x by omega]; exact e
    | succ k ih =>
      intro x mm x0 xk hd f e
      have h1 : w32 (w32 (w32 (40 * s) + i) + x) = 40 * s + i + x := by rw [w32_id (z := 40 * s) (by omega) (by omega), w32_id (z := 40 * s + i) (by omega) (by omega), w32_id (by omega) (by omega)]
      have h2 : w32 (w32 (w32 (40 * t) + j) + x) = 40 * t + j + x := by rw [w32_id (z := 40 * t) (by omega) (by omega), w32_id (z := 40 * t + j) (by omega) (by omega), w32_id (by omega) (by omega)]
      refine gX11_copy_123 899 s i t j n 0 x mm _ ⟨fun q => ⟨fun _ => ?_, fun w => absurd rfl w⟩, fun q => by omega⟩
      rw [h1, h2, w32_id (z := x + 1) (by omega) (by omega)]
      refine ⟨by omega, by omega, ih (x + 1) _ (by omega) (by omega) hd (fun q hq => by rw [up_ne hq]; exact f q hq) (fun y => ?_)⟩
      rw [up_eq, e, e]
      by_cases hy : y = 40 * t + j + x
      · rw [if_pos hy, if_pos (show 40 * t + j ≤ y ∧ y < 40 * t + j + (x + 1) by omega), if_neg, show 40 * s + i + (y - (40 * t + j)) = 40 * s + i + x by omega]
        by_cases hst : s = t
        · have := hd hst; omega
        · omega
      · rw [if_neg hy]
        by_cases hy2 : 40 * t + j ≤ y ∧ y < 40 * t + j + x
        · rw [if_pos hy2, if_pos (by omega)]
        · rw [if_neg hy2, if_neg (by omega)]
  have dn : ∀ (k : Nat) (x : Int) (mm : jM), 0 ≤ x → x + k = n → s = t → i < j → (∀ q, q ≠ 159 → mm q = m1 q) → (∀ y, mm 159 y = if 40 * t + j + (n - x) ≤ y ∧ y < 40 * t + j + n then m 159 (40 * s + i + (y - (40 * t + j))) else m 159 y) → aX11_copy_123 899 s i t j n 1 x mm (fun v' m2 => n = v' ∧ Inv m2 ∧ ∀ q, q < 0 → m2 q = m q) := by
    intro k
    induction k with
    | zero =>
      intro x mm x0 xk hst hij f e
      refine gX11_copy_123 899 s i t j n 1 x mm _ ⟨fun q => by omega, fun _ => fin mm f (fun y => ?_)⟩
      rw [e, show 40 * t + j + (n - x) = 40 * t + j by omega]
    | succ k ih =>
      intro x mm x0 xk hst hij f e
      have hq : w32 (w32 (n - 1) - x) = n - 1 - x := by rw [w32_id (z := n - 1) (by omega) (by omega), w32_id (by omega) (by omega)]
      have h1 : w32 (w32 (w32 (40 * s) + i) + (n - 1 - x)) = 40 * s + i + (n - 1 - x) := by rw [w32_id (z := 40 * s) (by omega) (by omega), w32_id (z := 40 * s + i) (by omega) (by omega), w32_id (by omega) (by omega)]
      have h2 : w32 (w32 (w32 (40 * t) + j) + (n - 1 - x)) = 40 * t + j + (n - 1 - x) := by rw [w32_id (z := 40 * t) (by omega) (by omega), w32_id (z := 40 * t + j) (by omega) (by omega), w32_id (by omega) (by omega)]
      refine gX11_copy_123 899 s i t j n 1 x mm _ ⟨fun q => ⟨fun w => absurd w (by omega), fun _ => ?_⟩, fun q => by omega⟩
      rw [hq, h1, h2, w32_id (z := x + 1) (by omega) (by omega)]
      refine ⟨by omega, by omega, ih (x + 1) _ (by omega) (by omega) hst hij (fun q hq => by rw [up_ne hq]; exact f q hq) (fun y => ?_)⟩
      rw [up_eq, e, e]
      by_cases hy : y = 40 * t + j + (n - 1 - x)
      · rw [if_pos hy, if_pos (show 40 * t + j + (n - (x + 1)) ≤ y ∧ y < 40 * t + j + n by omega), if_neg (by omega), show 40 * s + i + (y - (40 * t + j)) = 40 * s + i + (n - 1 - x) by omega]
      · rw [if_neg hy]
        by_cases hy2 : 40 * t + j + (n - x) ≤ y ∧ y < 40 * t + j + n
        · rw [if_pos hy2, if_pos (by omega)]
        · rw [if_neg hy2, if_neg (by omega)]
  have e58 : m1 157 = m 157 := f1 157 (by omega)
  have e59 : m1 158 = m 158 := f1 158 (by omega)
  have upS : (s = t → ¬ i < j) → aX11_copy_123 899 s i t j n 0 0 m1 (fun v' m2 => n = v' ∧ Inv m2 ∧ ∀ q, q < 0 → m2 q = m q) := fun hd => up n.toNat 0 m1 (by omega) (by omega) hd (fun _ _ => rfl) (fun y => by rw [if_neg (by omega), e160])
  refine gX11_copy 899 s i t j n m1 _ (s_isSheetR ⟨fun a => ?_, fun _ => s_isSheetR ⟨fun a => ?_, fun _ => ?_⟩⟩)
  · rw [bI_0] at a; exact absurd g a
  · rw [bI_0] at a; exact absurd g2 a
  rw [e58, e59, w32_id (z := m 158 s - n) (by omega) (by omega), w32_id (z := m 158 t - n) (by omega) (by omega)]
  refine ⟨by omega, fun a => absurd a x, fun _ => ⟨by omega, fun a => absurd a y, fun _ => ⟨by omega, by omega, fun _ => ⟨fun a => by omega, fun _ => ⟨fun a => by omega, fun _ => ⟨fun a => by omega, fun _ => ⟨by omega, fun a => by omega, fun _ => ⟨by omega, fun a => by omega, fun _ => ⟨fun hst => ⟨fun hij => dn n.toNat 0 m1 (by omega) (by omega) hst hij (fun _ _ => rfl) (fun y => by rw [if_neg (by omega), e160]), fun hij => upS (fun _ => hij)⟩, fun hst => upS (fun a => absurd a hst)⟩⟩⟩⟩⟩⟩, fun a => absurd z a⟩⟩⟩
theorem rem_b (a : Int) : -1000000000 < a.tmod 1000000000 ∧ a.tmod 1000000000 < 1000000000 := by
  refine ⟨?_, Int.tmod_lt_of_pos a (by omega)⟩
  have := Int.tmod_lt_of_pos (-a) (show (0 : Int) < 1000000000 by omega)
  rw [Int.neg_tmod] at this
  omega
theorem st_lay {m : jM} (h : Inv m) {s j w i n : Int} (hn : in32 n) (hi : in32 i) : stp zX10_lay zX11_lay [jI s, jI j, jI w, jI i, jI n] m := by
  unfold in32 at hn hi
  have hsh := Inv_sh h
  have refl : ∀ u, ((¬ ((0 ≤ s ∧ s ≤ 3) ∧ (0 ≤ j ∧ j ≤ 7) ∧ (0 ≤ w ∧ w ≤ 2) ∧ 1 ≤ n ∧ n ≤ 8)) ∧ u = -2) ∨ (((0 ≤ s ∧ s ≤ 3) ∧ (0 ≤ j ∧ j ≤ 7) ∧ (0 ≤ w ∧ w ≤ 2) ∧ 1 ≤ n ∧ n ≤ 8) ∧ ((m 157 s = -1 ∧ u = -11) ∨ (m 157 s ≠ -1 ∧ m 157 s ≠ w ∧ u = -13) ∨ (m 157 s = w ∧ m 157 s ≠ -1 ∧ ¬ (0 ≤ i ∧ i + n ≤ m 158 s) ∧ u = -12))) → (∀ q, q < 0 → m q = m q) ∧ jK 900 zX11_lay [jO 11 103, jI s, jI j, jI w, jI i, jI n] m (fun v' m2 => u = v' ∧ Inv m2 ∧ ∀ q, q < 0 → m2 q = m q) := by
    intro u hu
    have done : ∀ v', u = v' → u = v' ∧ Inv m ∧ ∀ q, q < 0 → m q = m q := fun v' e => ⟨e, h, fun _ _ => rfl⟩
    refine ⟨fun _ _ => rfl, gX11_lay 899 s j w i n m _ (s_isSheetR ⟨fun g => done _ ?_, fun g => s_in ⟨fun g2 => done _ ?_, fun g2 => s_in ⟨fun g3 => done _ ?_, fun g3 => s_in ⟨fun g4 => done _ ?_, fun g4 => ?_⟩⟩⟩⟩)⟩
    · rw [bI_0] at g; omega
    · rw [bI_0] at g2; omega
    · rw [bI_0] at g3; omega
    · rw [bI_0] at g4; omega
    rw [bI_0, Classical.not_not] at g g2 g3 g4
    have bs := (hsh s g.1 (by omega)).2.2.2
    refine ⟨by omega, fun x => done _ (by omega), fun x => ⟨by omega, fun y => ⟨fun z => done _ (by omega), fun z => ⟨by omega, fun o => done _ (by rw [w32_id (by omega) (by omega)] at o; omega), fun o => ?_⟩⟩, fun y => done _ (by omega)⟩⟩
    rw [w32_id (by omega) (by omega)] at o
    omega
  refine gX10_lay 899 s j w i n m _ (s_isSheetC ⟨fun g => ?_, fun g => s_isSeat ⟨fun g2 => ?_, fun g2 => ⟨fun g3 => refl _ (Or.inl ⟨by omega, rfl⟩), fun g3 => ⟨fun g4 => refl _ (Or.inl ⟨by omega, rfl⟩), fun g4 => ⟨fun g5 => refl _ (Or.inl ⟨by omega, rfl⟩), fun g5 => ⟨fun g6 => refl _ (Or.inl ⟨by omega, rfl⟩), fun g6 => ?_⟩⟩⟩⟩⟩⟩)
  · rw [bI_0] at g; exact refl _ (Or.inl ⟨fun x => g x.1, rfl⟩)
  · rw [bI_0] at g2; exact refl _ (Or.inl ⟨fun x => g2 x.2.1, rfl⟩)
  rw [bI_0, Classical.not_not] at g g2
  have gg : (0 ≤ s ∧ s ≤ 3) ∧ (0 ≤ j ∧ j ≤ 7) ∧ (0 ≤ w ∧ w ≤ 2) ∧ 1 ≤ n ∧ n ≤ 8 := ⟨g, g2, by omega, by omega, by omega⟩
  obtain ⟨b1, b2, b3, b4, b5, b6⟩ := hsh s g.1 (by omega)
  rw [b1, ← b2]
  -- the new burdens
  have rb := rem_b
  have l68 : (m 157 s = -1 ∨ m 157 s = w) → aX10_lay_68 899 j i n (95 + 2 * s) m (fun v m1 => (∀ q, q < 0 → m1 q = m q) ∧ jK 900 zX11_lay [jO 11 103, jI s, jI j, jI w, jI i, jI n] m1 (fun v' m2 => v = v' ∧ Inv m2 ∧ ∀ q, q < 0 → m2 q = m q)) := by
    intro hw
    refine gX10_lay_68 899 j i n (95 + 2 * s) m _ ⟨fun x => refl _ (Or.inr ⟨gg, Or.inl ⟨by omega, rfl⟩⟩), fun x => s_holds b5 ⟨fun y => ?_, fun y => ?_⟩⟩
    · rw [bI_0, ← b4] at y; exact refl _ (Or.inr ⟨gg, Or.inr (Or.inr ⟨by omega, by omega, by omega, rfl⟩)⟩)
    rw [bI_0, Classical.not_not, ← b4] at y
    -- the class
    have l98 : ∀ (k : Nat) (c : Int) (mm : jM), 0 ≤ c → c + k = n → (∀ q, q ≠ 3 → mm q = m q) → (∀ x, mm 3 x = if 8 * j ≤ x ∧ x < 8 * j + c then (if (m 159 (40 * s + i + (x - 8 * j))).tmod 1000000000 < 0 then -((m 159 (40 * s + i + (x - 8 * j))).tmod 1000000000) else (m 159 (40 * s + i + (x - 8 * j))).tmod 1000000000) else m 3 x) → aX10_lay_98 899 j i n (95 + 2 * s) c mm (fun v m1 => (∀ q, q < 0 → m1 q = m q) ∧ jK 900 zX11_lay [jO 11 103, jI s, jI j, jI w, jI i, jI n] m1 (fun v' m2 => v = v' ∧ Inv m2 ∧ ∀ q, q < 0 → m2 q = m q)) := by
      intro k
      induction k with
      | zero =>
        intro c mm c0 ck f e
        refine gX10_lay_98 899 j i n (95 + 2 * s) c mm _ ⟨fun q => by omega, fun _ => s_changed (fun m1 f1 e1 z1 => ?_)⟩
        have hc : c = n := by omega
        rw [hc] at e
        have fr : ∀ q, q ≠ 0 → q ≠ 3 → m1 q = m q := fun q a b => by rw [f1 q a, f q b]
        have r3 : ∀ x, m1 3 x = if 8 * j ≤ x ∧ x < 8 * j + n then (if (m 159 (40 * s + i + (x - 8 * j))).tmod 1000000000 < 0 then -((m 159 (40 * s + i + (x - 8 * j))).tmod 1000000000) else (m 159 (40 * s + i + (x - 8 * j))).tmod 1000000000) else m 3 x := fun x => by rw [f1 3 (by omega)]; exact e x
        refine ⟨fun q hq => fr q (by omega) (by omega), ?_⟩
        -- the reference
        have q98 : ∀ (k : Nat) (c : Int) (mm : jM), 0 ≤ c → c + k = n → (∀ q, q ≠ 106 → mm q = m1 q) → (∀ x, mm 106 x = if 8 * j ≤ x ∧ x < 8 * j + c then (if (m 159 (40 * s + i + (x - 8 * j))).tmod 1000000000 < 0 then -((m 159 (40 * s + i + (x - 8 * j))).tmod 1000000000) else (m 159 (40 * s + i + (x - 8 * j))).tmod 1000000000) else m 106 x) → aX11_lay_98 899 s j i n c mm (fun v' m2 => n = v' ∧ Inv m2 ∧ ∀ q, q < 0 → m2 q = m q) := by
          intro k
          induction k with
          | zero =>
            intro c mm c0 ck f2 e2
            refine gX11_lay_98 899 s j i n c mm _ ⟨fun q => by omega, fun _ => ⟨rfl, ?_, fun q hq => by rw [f2 q (by omega), fr q (by omega) (by omega)]⟩⟩
            rw [show c = n by omega] at e2
            refine Inv_mut h (fun q a0 a1 a2 a3 a4 a5 a6 a7 a8 => by rw [f2 q a7, fr q a0 a3]) (by rw [f2 0 (by omega), e1 2 (by omega), f 0 (by omega)]) (fun x x1 x2 => by rw [f2 0 (by omega)]; exact z1 x x1 x2) (by rw [f2 1 (by omega), f2 104 (by omega), fr 1 (by omega) (by omega), fr 104 (by omega) (by omega)]; exact h.1) (by rw [f2 2 (by omega), f2 105 (by omega), fr 2 (by omega) (by omega), fr 105 (by omega) (by omega)]; exact h.2.1) ?_ (by rw [f2 4 (by omega), f2 107 (by omega), fr 4 (by omega) (by omega), fr 107 (by omega) (by omega)]; exact h.2.2.2.1)
            rw [f2 3 (by omega)]
            intro x x1 x2
            rw [e2, r3]
            by_cases hx : 8 * j ≤ x ∧ x < 8 * j + n
            · rw [if_pos hx, if_pos hx]
              have := rb (m 159 (40 * s + i + (x - 8 * j)))
              refine ⟨rfl, ?_⟩
              split <;> omega
            · rw [if_neg hx, if_neg hx]; exact h.2.2.1 x x1 x2
          | succ k ih2 =>
            intro c mm c0 ck f2 e2
            have h1 : w32 (w32 (w32 (40 * s) + i) + c) = 40 * s + i + c := by rw [w32_id (z := 40 * s) (by omega) (by omega), w32_id (z := 40 * s + i) (by omega) (by omega), w32_id (by omega) (by omega)]
            have h2 : w32 (w32 (8 * j) + c) = 8 * j + c := by rw [w32_id (z := 8 * j) (by omega) (by omega), w32_id (by omega) (by omega)]
            have e160 : mm 159 = m 159 := by rw [f2 159 (by omega), fr 159 (by omega) (by omega)]
            refine gX11_lay_98 899 s j i n c mm _ ⟨fun q => ?_, fun q => by omega⟩
            rw [h1, h2, w32_id (z := c + 1) (by omega) (by omega), e160]
            have hr := rb (m 159 (40 * s + i + c))
            have eL : lRem (m 159 (40 * s + i + c)) 1000000000 = (m 159 (40 * s + i + c)).tmod 1000000000 := rfl
            rw [eL]
            have st : ∀ v, v = (if (m 159 (40 * s + i + c)).tmod 1000000000 < 0 then -((m 159 (40 * s + i + c)).tmod 1000000000) else (m 159 (40 * s + i + c)).tmod 1000000000) → aX11_lay_98 899 s j i n (c + 1) (jUp mm 106 (8 * j + c) v) (fun v' m2 => n = v' ∧ Inv m2 ∧ ∀ q, q < 0 → m2 q = m q) := by
              intro v hv
              refine ih2 (c + 1) _ (by omega) (by omega) (fun q hq => by rw [up_ne hq]; exact f2 q hq) (fun x => ?_)
              rw [up_eq, e2]
              by_cases hx : x = 8 * j + c
              · rw [if_pos hx, if_pos (show 8 * j ≤ x ∧ x < 8 * j + (c + 1) by omega), hv, show 40 * s + i + (x - 8 * j) = 40 * s + i + c by omega]
              · rw [if_neg hx]
                by_cases hx2 : 8 * j ≤ x ∧ x < 8 * j + c
                · rw [if_pos hx2, if_pos (show 8 * j ≤ x ∧ x < 8 * j + (c + 1) by omega)]
                · rw [if_neg hx2, if_neg (show ¬ (8 * j ≤ x ∧ x < 8 * j + (c + 1)) by omega)]
            refine ⟨by omega, by omega, fun x => ⟨by omega, ?_⟩, fun x => ⟨by omega, st _ (by rw [if_neg x])⟩⟩
            rw [w64_id (by omega) (by omega)]
            exact st _ (by rw [if_pos x])
        refine gX11_lay 899 s j w i n m1 _ (s_isSheetR ⟨fun a => ?_, fun _ => s_in ⟨fun a => ?_, fun _ => s_in ⟨fun a => ?_, fun _ => s_in ⟨fun a => ?_, fun _ => ?_⟩⟩⟩⟩)
        · rw [bI_0] at a; exact absurd g a
        · rw [bI_0] at a; exact absurd g2 a
        · rw [bI_0] at a; exact absurd (show 0 ≤ w ∧ w ≤ 2 by omega) a
        · rw [bI_0] at a; exact absurd (show 1 ≤ n ∧ n ≤ 8 by omega) a
        rw [fr 157 (by omega) (by omega), fr 158 (by omega) (by omega), w32_id (z := m 158 s - n) (by omega) (by omega)]
        refine ⟨by omega, fun a => by omega, fun _ => ⟨by omega, fun _ => ⟨fun a => by omega, fun _ => ⟨by omega, fun a => by omega, fun _ => ?_⟩⟩, fun a => by omega⟩⟩
        exact q98 n.toNat 0 m1 (by omega) (by omega) (fun _ _ => rfl) (fun x => by rw [if_neg (by omega), fr 106 (by omega) (by omega)])
      | succ k ih =>
        intro c mm c0 ck f e
        have h2 : w32 (w32 (j * 8) + c) = 8 * j + c := by rw [w32_id (z := j * 8) (by omega) (by omega), w32_id (by omega) (by omega)]; omega
        refine gX10_lay_98 899 j i n (95 + 2 * s) c mm _ ⟨fun q => ?_, fun q => by omega⟩
        rw [w32_id (z := i + c) (by omega) (by omega), h2, w32_id (z := c + 1) (by omega) (by omega), f (95 + 2 * s + 1) (by omega), ← b6 (i + c) (by omega) (by omega), show 40 * s + (i + c) = 40 * s + i + c by omega]
        have hr := rb (m 159 (40 * s + i + c))
        have eL : lRem (m 159 (40 * s + i + c)) 1000000000 = (m 159 (40 * s + i + c)).tmod 1000000000 := rfl
        rw [eL]
        refine ⟨by omega, by omega, s_abs (by unfold in64; omega) ⟨by omega, ih (c + 1) _ (by omega) (by omega) (fun q hq => by rw [up_ne hq]; exact f q hq) (fun x => ?_)⟩⟩
        rw [up_eq, e]
        by_cases hx : x = 8 * j + c
        · rw [if_pos hx, if_pos (show 8 * j ≤ x ∧ x < 8 * j + (c + 1) by omega), show 40 * s + i + (x - 8 * j) = 40 * s + i + c by omega]
        · rw [if_neg hx]
          by_cases hx2 : 8 * j ≤ x ∧ x < 8 * j + c
          · rw [if_pos hx2, if_pos (show 8 * j ≤ x ∧ x < 8 * j + (c + 1) by omega)]
          · rw [if_neg hx2, if_neg (show ¬ (8 * j ≤ x ∧ x < 8 * j + (c + 1)) by omega)]
    exact l98 n.toNat 0 m (by omega) (by omega) (fun _ _ => rfl) (fun x => by rw [if_neg (by omega)])
  exact ⟨by omega, fun x => l68 (Or.inl x), fun x => ⟨fun y => l68 (Or.inr y), fun y => refl _ (Or.inr ⟨gg, Or.inr (Or.inl ⟨x, y, rfl⟩)⟩)⟩⟩

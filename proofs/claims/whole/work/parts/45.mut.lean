/-! calls that change something: the class, then the reference -/
def stp (z10 z11 : Nat) (as : List jV) (m : jM) : Prop := jK 900 z10 (jO 10 0 :: as) m (fun v m1 => (∀ q, q < 0 → m1 q = m q) ∧ jK 900 z11 (jO 11 103 :: as) m1 (fun v' m2 => v = v' ∧ Inv m2 ∧ ∀ q, q < 0 → m2 q = m q))
theorem cQt_n {m m' : jM} (h : cQt m m') : ∀ q, q < 0 → m' q = m q := fun q hq => h.1 q (by omega) (by omega)
theorem rQt_n {m m' : jM} (h : rQt m m') : ∀ q, q < 0 → m' q = m q := fun q hq => h.1 q (by omega) (by omega) (by omega)
/-- an asking call -/
theorem st_e {m m1 m2 : jM} (h1 : Inv m1) (q1 : ∀ q, q < 0 → m1 q = m q) (q2 : rQt m1 m2) : Inv m2 ∧ ∀ q, q < 0 → m2 q = m q := ⟨Inv_rq h1 q2, fun q hq => by rw [rQt_n q2 q hq, q1 q hq]⟩
theorem s_changed {d : Nat} {m : jM} {Q : Int → jM → Prop} (h : ∀ m' : jM, (∀ q, q ≠ 0 → m' q = m q) → (∀ j, ¬ (12 ≤ j ∧ j ≤ 15) → m' 0 j = m 0 j) → (∀ j, 12 ≤ j → j ≤ 15 → m' 0 j = 0) → Q 0 m') : jK (d + 1) zX10_changed [jO 10 0] m Q := by
  refine gX10_changed d m Q (h _ (fun q hq => by rw [up_ne hq, up_ne hq, up_ne hq, up_ne hq]) (fun j hj => by rw [up_oth (by omega), up_oth (by omega), up_oth (by omega), up_oth (by omega)]) (fun j j1 j2 => ?_))
  have hj : j = 12 ∨ j = 13 ∨ j = 14 ∨ j = 15 := by omega
  rcases hj with rfl | rfl | rfl | rfl
  · rw [up_oth (by omega), up_oth (by omega), up_oth (by omega), up_same]
  · rw [up_oth (by omega), up_oth (by omega), up_same]
  · rw [up_oth (by omega), up_same]
  · rw [up_same]
theorem sh8_0 {i : Int} (h : 0 ≤ i ∧ i < 8) : iShl 0 i = 0 := by
  obtain ⟨n, rfl⟩ : ∃ n : Nat, i = n := ⟨i.toNat, by omega⟩
  have : ∀ n : Fin 8, iShl 0 (n.val : Int) = 0 := by decide +kernel
  exact this ⟨n, by omega⟩
theorem seat_bt {x w s : Int} (hx : mk8 x) (hw : 0 ≤ w ∧ w < 8) (hs : s = 0 ∨ s = 1) : mk8 (iOr (iAnd x (iXor (iShl 1 w) (-1))) (iShl s w)) ∧ ∀ j : Int, 0 ≤ j → j < 8 → (if bt (iOr (iAnd x (iXor (iShl 1 w) (-1))) (iShl s w)) j = true then (1 : Int) else 0) = if j = w then s else (if bt x j = true then 1 else 0) := by
  have e : ∀ j : Int, 0 ≤ j → j < 8 → bt (iAnd x (iXor (iShl 1 w) (-1))) j = (bt x j && !decide (j = w)) := fun j j1 j2 => by rw [bt_and, bt_not (by omega), bt_one (by omega) (by omega)]
  rcases hs with rfl | rfl
  · rw [sh8_0 hw, or_0 (mk_andl hx)]
    refine ⟨mk_andl hx, fun j j1 j2 => ?_⟩
    rw [e j j1 j2]
    by_cases hj : j = w <;> simp [hj]
  · refine ⟨mk_or1 (mk_andl hx) hw, fun j j1 j2 => ?_⟩
    by_cases hj : j = w
    · rw [if_pos ((bt_or1 hw ⟨j1, j2⟩).mpr (Or.inr hj)), if_pos hj]
    · rw [if_neg hj, bt_or, e j j1 j2, bt_one (by omega) (by omega)]
      simp [hj]
theorem iCt_up {a w : Int → Int} {side who s : Int} (h : iCt a w) (hside : side = 0 ∨ side = 1) (hw : 0 ≤ who ∧ who < 8) (hs : s = 0 ∨ s = 1) : iCt (fun j => if j = side then iOr (iAnd (a side) (iXor (iShl 1 who) (-1))) (iShl s who) else a j) (fun x => if x = 8 * side + who then s else w x) := by
  obtain ⟨h0, h1, h2⟩ := h
  rcases hside with rfl | rfl
  · obtain ⟨b1, b2⟩ := seat_bt h0 hw hs
    refine ⟨by dsimp only; rw [if_pos rfl]; exact b1, by dsimp only; rw [if_neg (by omega)]; exact h1, fun j j1 j2 => ?_⟩
    have y1 : ¬ (1 : Int) = 0 := by omega
    simp only [if_true, y1, if_false]
    rw [b2 j j1 j2, (h2 j j1 j2).1, (h2 j j1 j2).2, if_neg (show ¬ 8 + j = 8 * 0 + who by omega)]
    refine ⟨?_, rfl⟩
    by_cases hj : j = who
    · rw [if_pos (by omega), if_pos hj]
    · rw [if_neg (by omega), if_neg hj]
  · obtain ⟨b1, b2⟩ := seat_bt h1 hw hs
    refine ⟨by dsimp only; rw [if_neg (by omega)]; exact h0, by dsimp only; rw [if_pos rfl]; exact b1, fun j j1 j2 => ?_⟩
    have y1 : ¬ (0 : Int) = 1 := by omega
    simp only [if_true, y1, if_false]
    rw [b2 j j1 j2, (h2 j j1 j2).1, (h2 j j1 j2).2, if_neg (show ¬ j = 8 * 1 + who by omega)]
    refine ⟨rfl, ?_⟩
    by_cases hj : j = who
    · rw [if_pos (by omega), if_pos hj]
    · rw [if_neg (by omega), if_neg hj]
theorem up_fun {m : jM} {k i v : Int} : jUp m k i v k = fun j => if j = i then v else m k j := by
  funext j
  exact up_eq
theorem st_here {m : jM} (h : Inv m) (a b s : Int) : stp zX10_here zX11_here [jI a, jI b, jI s] m := by
  have hct := h.1
  have bad : ∀ m1, (∀ q, q < 0 → m1 q = m q) → Inv m1 → ¬ (((0 ≤ a ∧ a ≤ 1) ∧ 0 ≤ b ∧ b ≤ 7) ∧ 0 ≤ s ∧ s ≤ 1) → (∀ q, q < 0 → m1 q = m q) ∧ jK 900 zX11_here [jO 11 103, jI a, jI b, jI s] m1 (fun v' m2 => -2 = v' ∧ Inv m2 ∧ ∀ q, q < 0 → m2 q = m q) := by
    intro m1 n1 h1 hb
    refine ⟨n1, gX11_here 899 a b s m1 _ (s_isWho ⟨fun g => ⟨rfl, h1, n1⟩, fun g => s_in ⟨fun g2 => ⟨rfl, h1, n1⟩, fun g2 => ?_⟩⟩)⟩
    rw [bI_0, Classical.not_not] at g g2
    exact absurd ⟨g, g2⟩ hb
  have b0 := fun hb => bad m (fun _ _ => rfl) h hb
  refine gX10_here 899 a b s m _ (s_isSide ⟨fun g => ?_, fun g => s_isSeat ⟨fun g2 => ?_, fun g2 => ⟨fun g3 => b0 (by omega), fun g3 => ⟨fun g4 => b0 (by omega), fun g4 => ?_⟩⟩⟩⟩)
  · rw [bI_0] at g; exact b0 (fun x => g x.1.1)
  · rw [bI_0] at g2; exact b0 (fun x => g2 x.1.2)
  rw [bI_0, Classical.not_not] at g g2
  refine s_changed (fun m1 f1 e1 z1 => ?_)
  have c1 : m1 1 = m 1 := f1 1 (by omega)
  have hside : a = 0 ∨ a = 1 := by omega
  have hs : s = 0 ∨ s = 1 := by omega
  -- both sides at once
  have key : ∀ v, v = (if bt (m 1 a) b = true then (1 : Int) else 0) → (fun v m2 => (∀ q, q < 0 → m2 q = m q) ∧ jK 900 zX11_here [jO 11 103, jI a, jI b, jI s] m2 (fun v' m3 => v = v' ∧ Inv m3 ∧ ∀ q, q < 0 → m3 q = m q)) v (jUp m1 1 a (iOr (iAnd (m 1 a) (iXor (iShl 1 b) (-1))) (iShl s b))) := by
    intro v hv
    generalize hm2 : jUp m1 1 a (iOr (iAnd (m 1 a) (iXor (iShl 1 b) (-1))) (iShl s b)) = m2
    have f2 : ∀ q, q ≠ 0 → q ≠ 1 → m2 q = m q := fun q q0 q1 => by rw [← hm2, up_ne q1]; exact f1 q q0
    have g0 : m2 0 = m1 0 := by rw [← hm2]; exact up_ne (by omega)
    have r1 : m2 1 = fun j => if j = a then iOr (iAnd (m 1 a) (iXor (iShl 1 b) (-1))) (iShl s b) else m 1 j := by rw [← hm2, up_fun, c1]
    refine ⟨fun q hq => f2 q (by omega) (by omega), gX11_here 899 a b s m2 _ (s_isWho ⟨fun x => ?_, fun _ => s_in ⟨fun x => ?_, fun _ => ?_⟩⟩)⟩
    · rw [bI_0] at x; exact absurd ⟨g, g2⟩ x
    · rw [bI_0] at x; exact absurd (show 0 ≤ s ∧ s ≤ 1 by omega) x
    · rw [w32_id (z := 8 * a) (by omega) (by omega), w32_id (by omega) (by omega)]
      refine ⟨by omega, by omega, ?_, ?_, fun q hq => by rw [up_ne (by omega)]; exact f2 q (by omega) (by omega)⟩
      · rw [hv, f2 104 (by omega) (by omega)]
        rcases hside with rfl | rfl
        · rw [(hct.2.2 b g2.1 (by omega)).1.symm, show 8 * 0 + b = b by omega]
        · rw [(hct.2.2 b g2.1 (by omega)).2.symm, show 8 * 1 + b = 8 + b by omega]
      · refine Inv_mut h (fun q a0 a1 a2 a3 a4 a5 a6 a7 a8 => by rw [up_ne a5]; exact f2 q a0 a1) (by rw [up_ne (by omega), g0]; exact e1 2 (by omega)) (fun j j1 j2 => by rw [up_ne (by omega), g0]; exact z1 j j1 j2) ?_ (by rw [up_ne (by omega), up_ne (by omega), f2 2 (by omega) (by omega), f2 105 (by omega) (by omega)]; exact h.2.1) (by rw [up_ne (by omega), up_ne (by omega), f2 3 (by omega) (by omega), f2 106 (by omega) (by omega)]; exact h.2.2.1) (by rw [up_ne (by omega), up_ne (by omega), f2 4 (by omega) (by omega), f2 107 (by omega) (by omega)]; exact h.2.2.2.1)
        rw [up_fun, up_ne (by omega), r1, f2 104 (by omega) (by omega)]
        exact iCt_up hct hside ⟨g2.1, by omega⟩ hs
  have hg : ∀ x, iAnd (iShr x b) 1 = if bt x b = true then 1 else 0 := fun x => bt_get (by omega)
  refine gX0_seat 898 a b s m1 _ ⟨fun x => ⟨fun _ => ?_, fun y => absurd x y⟩, fun x => ⟨fun y => absurd y x, fun _ => ?_⟩⟩ <;> rw [c1, hg]
  · subst x; exact key _ rfl
  · have : a = 1 := by omega
    subst this; exact key _ rfl
theorem st_trait {m : jM} (h : Inv m) (a b w v : Int) : stp zX10_trait zX11_trait [jI a, jI b, jI w, jI v] m := by
  have bad : ¬ (((0 ≤ a ∧ a ≤ 1) ∧ 0 ≤ b ∧ b ≤ 7) ∧ (0 ≤ w ∧ w ≤ 2) ∧ -999 ≤ v ∧ v ≤ 999) → (∀ q, q < 0 → m q = m q) ∧ jK 900 zX11_trait [jO 11 103, jI a, jI b, jI w, jI v] m (fun v' m2 => -2 = v' ∧ Inv m2 ∧ ∀ q, q < 0 → m2 q = m q) := by
    intro hb
    refine ⟨fun _ _ => rfl, gX11_trait 899 a b w v m _ (s_isWho ⟨fun g => ⟨rfl, h, fun _ _ => rfl⟩, fun g => s_in ⟨fun g2 => ⟨rfl, h, fun _ _ => rfl⟩, fun g2 => s_in ⟨fun g3 => ⟨rfl, h, fun _ _ => rfl⟩, fun g3 => ?_⟩⟩⟩)⟩
    rw [bI_0, Classical.not_not] at g g2 g3
    exact absurd ⟨g, g2, g3⟩ hb
  refine gX10_trait 899 a b w v m _ (s_isSide ⟨fun g => ?_, fun g => s_isSeat ⟨fun g2 => ?_, fun g2 => ⟨fun g3 => bad (by omega), fun g3 => ⟨fun g4 => ⟨fun g5 => bad (by omega), fun g5 => ⟨fun g6 => bad (by omega), fun g6 => ?_⟩⟩, fun g4 => bad (by omega)⟩⟩⟩⟩)
  · rw [bI_0] at g; exact bad (fun x => g x.1.1)
  · rw [bI_0] at g2; exact bad (fun x => g2 x.1.2)
  rw [bI_0, Classical.not_not] at g g2
  rw [w32_id (z := a * 8) (by omega) (by omega), w32_id (z := a * 8 + b) (by omega) (by omega), w32_id (z := (a * 8 + b) * 3) (by omega) (by omega), w32_id (by omega) (by omega)]
  generalize hp : (a * 8 + b) * 3 + w = p
  have p48 : 0 ≤ p ∧ p < 48 := by omega
  refine ⟨p48, p48, s_changed (fun m1 f1 e1 z1 => ⟨fun q hq => by rw [f1 q (by omega), up_ne (by omega)], gX11_trait 899 a b w v m1 _ (s_isWho ⟨fun x => ?_, fun _ => s_in ⟨fun x => ?_, fun _ => s_in ⟨fun x => ?_, fun _ => ?_⟩⟩⟩)⟩)⟩
  · rw [bI_0] at x; exact absurd ⟨g, g2⟩ x
  · rw [bI_0] at x; exact absurd (show 0 ≤ w ∧ w ≤ 2 by omega) x
  · rw [bI_0] at x; exact absurd (show -999 ≤ v ∧ v ≤ 999 by omega) x
  rw [w32_id (z := 8 * a) (by omega) (by omega), w32_id (z := 8 * a + b) (by omega) (by omega), w32_id (z := (8 * a + b) * 3) (by omega) (by omega), w32_id (by omega) (by omega), show (8 * a + b) * 3 + w = p by omega]
  have f2 : ∀ q, q ≠ 0 → q ≠ 2 → m1 q = m q := fun q q0 q1 => by rw [f1 q q0, up_ne q1]
  have r2 : m1 2 = fun j => if j = p then v else m 2 j := by rw [f1 2 (by omega), up_fun]
  refine ⟨p48, p48, ?_, ?_, fun q hq => by rw [up_ne (by omega)]; exact f2 q (by omega) (by omega)⟩
  · rw [f2 105 (by omega) (by omega), (h.2.1 p p48.1 p48.2).1]
  · refine Inv_mut h (fun q a0 a1 a2 a3 a4 a5 a6 a7 a8 => by rw [up_ne a6]; exact f2 q a0 a2) (by rw [up_ne (by omega), e1 2 (by omega), up_ne (by omega)]) (fun j j1 j2 => by rw [up_ne (by omega)]; exact z1 j j1 j2) (by rw [up_ne (by omega), up_ne (by omega), f2 1 (by omega) (by omega), f2 104 (by omega) (by omega)]; exact h.1) ?_ (by rw [up_ne (by omega), up_ne (by omega), f2 3 (by omega) (by omega), f2 106 (by omega) (by omega)]; exact h.2.2.1) (by rw [up_ne (by omega), up_ne (by omega), f2 4 (by omega) (by omega), f2 107 (by omega) (by omega)]; exact h.2.2.2.1)
    rw [up_fun, up_ne (by omega), r2, f2 105 (by omega) (by omega)]
    intro x x1 x2
    dsimp only
    by_cases hx : x = p
    · rw [if_pos hx, if_pos hx]; omega
    · rw [if_neg hx, if_neg hx]; exact h.2.1 x x1 x2
theorem s_forcedBeside {d : Nat} {j c : Int} {m : jM} {Q : Int → jM → Prop} (hj : 0 ≤ j ∧ j < 8) (hc : 0 ≤ c ∧ c < 8) (h1 : ¬ noFo (m 4) j c → Q 1 m) (h0 : noFo (m 4) j c → Q 0 m) : jK (d + 1) zX0_forcedBeside [jO 0 1, jI (8 * j + c)] m Q := by
  have hi := noFo_iff (mk := m 4) hj hc
  have dj : iDiv (8 * j + c) 8 = j := by rw [iDiv_nn (by omega) (by omega) (by omega)]; omega
  have rc : iRem (8 * j + c) 8 = c := by rw [iRem_nn (by omega)]; omega
  have loop : ∀ (k : Nat) (x : Int), 0 ≤ x → x + k = 64 → (∀ y : Int, 0 ≤ y → y < x → m 4 y = 2 → (c = y % 8 → j = y / 8) ∧ (c ≠ y % 8 → j ≠ y / 8)) → aX0_forcedBeside_2 d (8 * j + c) x m Q := by
    intro k
    induction k with
    | zero =>
      intro x x0 xk hy
      exact gX0_forcedBeside_2 d (8 * j + c) x m Q ⟨fun q => by omega, fun _ => h0 (hi.mpr (fun y y1 y2 y3 => hy y y1 (by omega) y3))⟩
    | succ k ih =>
      intro x x0 xk hy
      have dx : iDiv x 8 = x / 8 := iDiv_nn x0 (by omega) (by omega)
      have rx : iRem x 8 = x % 8 := iRem_nn x0
      have nxt : ((m 4 x = 2 → (c = x % 8 → j = x / 8) ∧ (c ≠ x % 8 → j ≠ x / 8))) → aX0_forcedBeside_2 d (8 * j + c) (w32 (x + 1)) m Q := fun g => by
        rw [w32_id (by omega) (by omega)]
        refine ih (x + 1) (by omega) (by omega) (fun y y1 y2 y3 => ?_)
        by_cases hyx : y = x
        · rw [hyx] at y3 ⊢; exact g y3
        · exact hy y y1 (by omega) y3
      have bad : m 4 x = 2 → ¬ ((c = x % 8 → j = x / 8) ∧ (c ≠ x % 8 → j ≠ x / 8)) → Q 1 m := fun e g => h1 (fun w => g (hi.mp w x x0 (by omega) e))
      have l30 : (x / 8 = j ∨ x % 8 = c) → aX0_forcedBeside_30 d (8 * j + c) x m Q := by
        intro hb
        refine gX0_forcedBeside_30 d (8 * j + c) x m Q ⟨fun g => nxt (fun _ => by omega), fun g => ⟨fun w => absurd w (by omega), fun _ => ⟨by omega, fun e => bad e (by omega), fun e => nxt (fun w => absurd w e)⟩⟩⟩
      refine gX0_forcedBeside_2 d (8 * j + c) x m Q ⟨fun q => ⟨by omega, by omega, fun g => ?_, fun g => ⟨by omega, by omega, fun g2 => ?_, fun g2 => ⟨fun g3 => nxt (fun _ => by omega), fun g3 => ⟨fun _ => nxt (fun _ => ?_), fun w => absurd rfl w⟩⟩⟩⟩, fun q => by omega⟩
      · rw [dx, dj] at g; exact l30 (Or.inl g)
      · rw [rx, rc] at g2; exact l30 (Or.inr g2)
      · rw [dx, dj] at g
        rw [rx, rc] at g2
        omega
  exact gX0_forcedBeside d (8 * j + c) m Q (loop 64 0 (by omega) (by omega) (fun y y1 y2 => by omega))
theorem st_mark {m : jM} (h : Inv m) (j c w : Int) : stp zX10_mark zX11_mark [jI j, jI c, jI w] m := by
  have mkE : ∀ x : Int, 0 ≤ x → x < 64 → m 107 x = m 4 x := fun x x1 x2 => (h.2.2.2.1 x x1 x2).1
  have bad : ¬ (pr8 j c ∧ 0 ≤ w ∧ w ≤ 2) → (∀ q, q < 0 → m q = m q) ∧ jK 900 zX11_mark [jO 11 103, jI j, jI c, jI w] m (fun v' m2 => -2 = v' ∧ Inv m2 ∧ ∀ q, q < 0 → m2 q = m q) := by
    intro hb
    refine ⟨fun _ _ => rfl, gX11_mark 899 j c w m _ (s_isPair ⟨fun g => ⟨rfl, h, fun _ _ => rfl⟩, fun g => s_in ⟨fun g2 => ⟨rfl, h, fun _ _ => rfl⟩, fun g2 => ?_⟩⟩)⟩
    rw [bI_0, Classical.not_not] at g g2
    exact absurd ⟨g, g2⟩ hb
  refine gX10_mark 899 j c w m _ (s_isPairC ⟨fun g => ?_, fun g => ⟨fun g2 => bad (by omega), fun g2 => ⟨fun g3 => bad (by omega), fun g3 => ?_⟩⟩⟩)
  · rw [bI_0] at g; exact bad (fun x => g x.1)
  rw [bI_0, Classical.not_not] at g
  have hw : w32 (w32 (j * 8) + c) = 8 * j + c := by rw [w32_id (z := j * 8) (by omega) (by omega), w32_id (by omega) (by omega)]; omega
  have hw2 : w32 (w32 (8 * j) + c) = 8 * j + c := by rw [w32_id (z := 8 * j) (by omega) (by omega), w32_id (by omega) (by omega)]
  rw [hw]
  have nf : noFo (m 107) j c ↔ noFo (m 4) j c := noFo_c mkE g.1.1 (by omega) g.2.1 (by omega)
  have main : (w = 2 → noFo (m 4) j c) → aX10_mark_48 899 w (8 * j + c) m (fun v m1 => (∀ q, q < 0 → m1 q = m q) ∧ jK 900 zX11_mark [jO 11 103, jI j, jI c, jI w] m1 (fun v' m2 => v = v' ∧ Inv m2 ∧ ∀ q, q < 0 → m2 q = m q)) := by
    intro hok
    refine gX10_mark_48 899 w (8 * j + c) m _ ⟨by omega, by omega, s_changed (fun m1 f1 e1 z1 => ?_)⟩
    have f2 : ∀ q, q ≠ 0 → q ≠ 4 → m1 q = m q := fun q q0 q1 => by rw [f1 q q0, up_ne q1]
    have r4 : m1 4 = fun x => if x = 8 * j + c then w else m 4 x := by rw [f1 4 (by omega), up_fun]
    have l43 : aX11_mark_43 899 j c w m1 (fun v' m2 => m 4 (8 * j + c) = v' ∧ Inv m2 ∧ ∀ q, q < 0 → m2 q = m q) := by
      refine gX11_mark_43 899 j c w m1 _ ?_
      rw [hw2]
      refine ⟨by omega, by omega, by rw [f2 107 (by omega) (by omega), mkE _ (by omega) (by omega)], ?_, fun q hq => by rw [up_ne (by omega)]; exact f2 q (by omega) (by omega)⟩
      refine Inv_mut h (fun q a0 a1 a2 a3 a4 a5 a6 a7 a8 => by rw [up_ne a8]; exact f2 q a0 a4) (by rw [up_ne (by omega), e1 2 (by omega), up_ne (by omega)]) (fun j j1 j2 => by rw [up_ne (by omega)]; exact z1 j j1 j2) (by rw [up_ne (by omega), up_ne (by omega), f2 1 (by omega) (by omega), f2 104 (by omega) (by omega)]; exact h.1) (by rw [up_ne (by omega), up_ne (by omega), f2 2 (by omega) (by omega), f2 105 (by omega) (by omega)]; exact h.2.1) (by rw [up_ne (by omega), up_ne (by omega), f2 3 (by omega) (by omega), f2 106 (by omega) (by omega)]; exact h.2.2.1) ?_
      rw [up_fun, up_ne (by omega), r4, f2 107 (by omega) (by omega)]
      intro x x1 x2
      dsimp only
      by_cases hx : x = 8 * j + c
      · rw [if_pos hx, if_pos hx]; omega
      · rw [if_neg hx, if_neg hx]; exact h.2.2.2.1 x x1 x2
    refine ⟨fun q hq => f2 q (by omega) (by omega), gX11_mark 899 j c w m1 _ (s_isPair ⟨fun x => ?_, fun _ => s_in ⟨fun x => ?_, fun _ => ⟨fun w2 => ?_, fun _ => l43⟩⟩⟩)⟩
    · rw [bI_0] at x; exact absurd g x
    · rw [bI_0] at x; exact absurd (show 0 ≤ w ∧ w ≤ 2 by omega) x
    · refine s_forcedOf (by omega) (by omega) (fun n n0 hn => ⟨fun x => ?_, fun _ => l43⟩)
      rw [f2 107 (by omega) (by omega), nf] at hn
      have := hn.mpr (hok w2)
      omega
  refine ⟨fun w2 => s_forcedBeside (by omega) (by omega) (fun hno => ?_) (fun hno => ?_), fun w2 => main (fun x => absurd x w2)⟩
  · refine ⟨fun x => absurd x (by omega), fun _ => ⟨fun _ _ => rfl, gX11_mark 899 j c w m _ (s_isPair ⟨fun x => ?_, fun _ => s_in ⟨fun x => ?_, fun _ => ⟨fun _ => s_forcedOf (by omega) (by omega) (fun n n0 hn => ⟨fun _ => ⟨rfl, h, fun _ _ => rfl⟩, fun x => ?_⟩), fun x => absurd w2 x⟩⟩⟩)⟩⟩
    · rw [bI_0] at x; exact absurd g x
    · rw [bI_0] at x; exact absurd (show 0 ≤ w ∧ w ≤ 2 by omega) x
    · exact absurd (nf.mp (hn.mp (by omega))) hno
  · exact ⟨fun _ => main (fun _ => hno), fun x => absurd rfl x⟩

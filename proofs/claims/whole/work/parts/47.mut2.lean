/-! the class's plan anew, whatever the reference says yet -/
def cPl (G : Int → Int → Int → Int) (m : jM) : Prop := m 54 0 = m 1 1 ∧ (∀ c : Int, 0 ≤ c → c < 8 → mk8 (m 57 c)) ∧ (∀ j c : Int, 0 ≤ j → j < 8 → 0 ≤ c → c < 8 → pO (m 57) j c = gO (bt (m 1 0)) (bt (m 1 1)) (cBu G m) (m 4) j c ∧ (gO (bt (m 1 0)) (bt (m 1 1)) (cBu G m) (m 4) j c = true → rB (m 56) j c = cBu G m j c)) ∧ (∀ x : Int, 0 ≤ x → x < 64 → m 56 x = if (bt (m 1 0) (x / 8) = true ∧ bt (m 1 1) (x % 8) = true) ∧ cBu G m (x / 8) (x % 8) ≠ -1 then cBu G m (x / 8) (x % 8) else -4611686018427387904) ∧ pW 0 54 m
theorem cBu_q {G : Int → Int → Int → Int} {m m' : jM} (h2 : m' 2 = m 2) (h3 : m' 3 = m 3) : cBu G m' = cBu G m := by unfold cBu cV0; rw [h2, h3]
theorem s_refC {d : Nat} {G : Int → Int → Int → Int} {rk : Int → Int} {m : jM} {Q : Int → jM → Prop} (hk : cOk G rk m) (hown : ∀ x : Int, 0 ≤ x → x < 64 → -1 ≤ m 3 x ∧ m 3 x ≤ 1000000000) (h11 : mk8 (m 1 1)) (z : m 0 12 = 0) (hQ : ∀ m' : jM, (∀ q, q ≠ 0 → ¬ (51 ≤ q ∧ q ≤ 59) → m' q = m q) → (∀ j, j ≠ 12 → m' 0 j = m 0 j) → m' 0 12 = 1 → cPl G m' → Q 0 m') : jK (d + 14) zX10_refreshPlan [jO 10 0] m Q := by
  refine gX10_refreshPlan (d + 13) m Q ⟨fun _ => ?_, fun g => absurd z g⟩
  refine s_load hk hown (fun m1 f1 e1 e2 e3 e4 e5 => ?_)
  have hbb : ∀ j c : Int, 0 ≤ j → j < 8 → 0 ≤ c → c < 8 → -1 ≤ cBu G m j c ∧ cBu G m j c ≤ 1000000000 := fun j c j1 j2 c1 c2 => burF_b (hown _ (by omega) (by omega)) (gVal_b hk.2.1 ⟨j1, j2⟩ ⟨c1, c2⟩ (cOk_w hk ⟨Int.le_refl 0, by omega⟩))
  have hB : dpB (pO (m1 57)) (rB (m1 56)) := by
    intro j c j1 j2 c1 c2 ho
    have w := e4 j c j1 j2 c1 c2
    have g : gO (bt (m 1 0)) (bt (m 1 1)) (cBu G m) (m 4) j c = true := by rw [← w.1]; exact ho
    rw [w.2 g]
    have := hbb j c j1 j2 c1 c2
    have := (gO_iff.mp g).2.2.1
    omega
  have f0 : m1 0 = m 0 := f1 0 (by omega) (by omega) (by omega) (by omega) (by omega) (by omega)
  refine jK_deep (show d + 3 ≤ d + 13 by omega) (s_weigh (p := 54) (by rw [e1]; exact h11) e3 hB (fun m2 f2 e6 w2 => ?_))
  have fr : ∀ q, q ≠ 0 → ¬ (51 ≤ q ∧ q ≤ 59) → jUp m2 0 12 1 q = m q := fun q q0 q1 => by
    rw [up_ne q0, f2 q (by omega) (by omega) (by omega) (by omega), f1 q (by omega) (by omega) (by omega) (by omega) (by omega) (by omega)]
  have u : ∀ q, q ≠ 0 → jUp m2 0 12 1 q = m2 q := fun q hq => up_ne hq
  refine hQ _ fr (fun j hj => by rw [up_oth hj, f2 0 (by omega) (by omega) (by omega) (by omega), f0]) up_same ?_
  unfold cPl
  have c57 : m2 57 = m1 57 := f2 57 (by omega) (by omega) (by omega) (by omega)
  have c56 : m2 56 = m1 56 := f2 56 (by omega) (by omega) (by omega) (by omega)
  rw [cBu_q (fr 2 (by omega) (by omega)) (fr 3 (by omega) (by omega)), u 54 (by omega), u 57 (by omega), u 56 (by omega), c57, c56, fr 1 (by omega) (by omega), fr 4 (by omega) (by omega), (e6 0 (by omega) (by omega) : m2 54 0 = m1 54 0)]
  exact ⟨e1, e3, e4, e5, pW_fr (fun q a b => u q (by omega)) w2⟩
/-- the court's own rows change, what was reckoned is given up -/
theorem Inv_mut2 {m m' : jM} (h : Inv m) (f : ∀ q, (5 ≤ q ∧ q ≤ 50) ∨ (75 ≤ q ∧ q ≤ 77) ∨ (94 ≤ q ∧ q ≤ 103) ∨ 108 ≤ q → m' q = m q) (h0 : m' 0 2 = m 0 2) (hz : ∀ j, 12 ≤ j → j ≤ 15 → m' 0 j = 0) (b1 : iCt (m' 1) (m' 104)) (b2 : iTr (m' 2) (m' 105)) (b3 : iOw (m' 3) (m' 106)) (b4 : iMk (m' 4) (m' 107)) : Inv m' := by
  obtain ⟨a1, a2, a3, a4, a5, a6, a7, a8, a9, a10, a11⟩ := h
  exact ⟨b1, b2, b3, b4, iRu_fr a5 a6 (f 5 (by omega)) (fun q h => f q (by omega)) (fun q a b => f q (by omega)), iPr_fr a6 (f 5 (by omega)) (by rw [f 45 (by omega)]), iTa_fr a7 (by rw [f 45 (by omega)]) (by rw [f 103 (by omega)]) (f 46 (by omega)) (f 118 (by omega)),
    iRo_fr a8 (by rw [f 103 (by omega)]) (fun q h => f q (by omega)), iIm_fr a9 h0 (by rw [f 103 (by omega)]) (fun q h => f q (by omega)), iSh_fr a10 (fun q h => f q (by omega)), iCa_0 hz⟩
theorem cPl_i {G : Int → Int → Int → Int} {m : jM} (hJ : ∀ j : Int, 0 ≤ j → j < 8 → bt (m 1 0) j = rJ (m 104) j) (hC : ∀ c : Int, 0 ≤ c → c < 8 → bt (m 1 1) c = rC (m 104) c) (hb : ∀ j c : Int, 0 ≤ j → j < 8 → 0 ≤ c → c < 8 → cBu G m j c = rBu m j c) (hm : ∀ x : Int, 0 ≤ x → x < 64 → m 4 x = m 107 x) (c : cPl G m) : iPl m := by
  obtain ⟨c1, c2, c3, c4, c5⟩ := c
  have gg : ∀ j c : Int, 0 ≤ j → j < 8 → 0 ≤ c → c < 8 → gO (bt (m 1 0)) (bt (m 1 1)) (cBu G m) (m 4) j c = iO m j c := fun j c j1 j2 c1 c2 => gO_c j1 j2 c1 c2 (hJ j j1 j2) (hC c c1 c2) (hb j c j1 j2 c1 c2) hm
  refine ⟨c1, c2, ⟨fun c p q => by rw [c1]; exact hC c p q, fun j c p q r s => by rw [(c3 j c p q r s).1, gg j c p q r s], fun j c p q r s hO => ?_⟩, fun x p q => ?_, c5⟩
  · have w := c3 j c p q r s
    rw [w.2 (by rw [← w.1]; exact hO), hb j c p q r s]
  · rw [c4 x p q, hb (x / 8) (x % 8) (by omega) (by omega) (by omega) (by omega), hJ (x / 8) (by omega) (by omega), hC (x % 8) (by omega) (by omega)]
theorem mut_pl {m : jM} (hz : Inv (jUp m 0 12 0)) (h12 : m 0 12 = 1) (c : cPl (rG m) m) : Inv m := by
  have u : ∀ q, q ≠ 0 → jUp m 0 12 0 q = m q := fun q hq => up_ne hq
  have u0 : ∀ j, j ≠ 12 → jUp m 0 12 0 0 j = m 0 j := fun j hj => up_oth hj
  have e1 := u 1 (by omega)
  have e105 := u 104 (by omega)
  have pl : iPl m := by
    refine cPl_i (fun j j1 j2 => ?_) (fun c c1 c2 => ?_) (fun j c j1 j2 c1 c2 => ?_) (fun x x1 x2 => ?_) c
    · have := Inv_J hz j1 j2
      rw [e1, e105] at this
      exact this
    · have := Inv_C hz c1 c2
      rw [e1, e105] at this
      exact this
    · have := Inv_bu hz j1 j2 c1 c2
      rw [rBu_q (m' := jUp m 0 12 0) (m := m) (fun q a b => u q (by omega)), rG_q (m' := jUp m 0 12 0) (m := m) (fun q a b => u q (by omega)), cBu_q (u 2 (by omega)) (u 3 (by omega))] at this
      exact this
    · have := (hz.2.2.2.1 x x1 x2).1
      rw [u 4 (by omega), u 107 (by omega)] at this
      exact this.symm
  have hc := hz.2.2.2.2.2.2.2.2.2.2
  refine Inv_ca hz (fun q a b => (u q a).symm) (fun q a b => (u q (by omega)).symm) (u0 2 (by omega)).symm ⟨Or.inr ⟨h12, pl⟩, Or.inl ?_, Or.inl ?_, Or.inl ?_⟩
  · rcases hc.2.1 with x | x
    · rw [u0 13 (by omega)] at x; exact x
    · have := x.2.1; rw [up_same] at this; omega
  · rcases hc.2.2.1 with x | x
    · rw [u0 14 (by omega)] at x; exact x
    · have := x.2.1; rw [up_same] at this; omega
  · rcases hc.2.2.2 with x | x
    · rw [u0 15 (by omega)] at x; exact x
    · have := x.2.1; rw [up_same] at this; omega
theorem cOk_mut {m m1 : jM} (h : Inv m) (h2 : tbd (m1 2)) (h5 : m1 5 = m 5) (hc : ∀ q, (7 ≤ q ∧ q ≤ 22) ∨ (47 ≤ q ∧ q ≤ 50) → m1 q = m q) : ∃ rk, cOk (rG m) rk m1 := by
  obtain ⟨a1, a2, a3, a4, ⟨rk, a5⟩, a6, a7⟩ := h
  refine ⟨rk, rul_cOk (nm := m 110) ?_ (fun q q1 q2 => ?_) h2⟩
  · rw [h5]
    refine rul_fr (fun r e r1 r2 e1 e2 => hc _ ?_) a5
    have := a6.1 r r1 r2
    unfold rcl at this
    omega
  · rw [h5]
    have := a6.1 q q1 q2
    unfold rcl at this
    omega
theorem st_tell {m : jM} (h : Inv m) (j c v : Int) : stp zX10_tell zX11_tell [jI j, jI c, jL v] m := by
  have bad : ¬ (pr8 j c ∧ -1 ≤ v ∧ v ≤ 1000000000) → (∀ q, q < 0 → m q = m q) ∧ jK 900 zX11_tell [jO 11 103, jI j, jI c, jL v] m (fun v' m2 => -2 = v' ∧ Inv m2 ∧ ∀ q, q < 0 → m2 q = m q) := by
    intro hb
    refine ⟨fun _ _ => rfl, gX11_tell 899 j c v m _ (s_isPair ⟨fun g => ⟨rfl, h, fun _ _ => rfl⟩, fun g => s_in ⟨fun g2 => ⟨rfl, h, fun _ _ => rfl⟩, fun g2 => ?_⟩⟩)⟩
    rw [bI_0, Classical.not_not] at g g2
    exact absurd ⟨g, g2⟩ hb
  refine gX10_tell 899 j c v m _ (s_isPairC ⟨fun g => ?_, fun g => ⟨fun g2 => bad (by omega), fun g2 => ⟨fun g3 => bad (by omega), fun g3 => ?_⟩⟩⟩)
  · rw [bI_0] at g; exact bad (fun x => g x.1)
  rw [bI_0, Classical.not_not] at g
  have hw : w32 (w32 (j * 8) + c) = 8 * j + c := by rw [w32_id (z := j * 8) (by omega) (by omega), w32_id (by omega) (by omega)]; omega
  have hw2 : w32 (w32 (8 * j) + c) = 8 * j + c := by rw [w32_id (z := 8 * j) (by omega) (by omega), w32_id (by omega) (by omega)]
  rw [hw]
  refine ⟨by omega, s_changed (fun m1 f1 e1 z1 => ?_)⟩
  have f2 : ∀ q, q ≠ 0 → q ≠ 3 → m1 q = m q := fun q q0 q1 => by rw [f1 q q0, up_ne q1]
  have r3 : m1 3 = fun x => if x = 8 * j + c then v else m 3 x := by rw [f1 3 (by omega), up_fun]
  obtain ⟨rk, hk⟩ := cOk_mut (m1 := m1) h (by rw [f2 2 (by omega) (by omega)]; exact (Inv_tbd h).1) (f2 5 (by omega) (by omega)) (fun q hq => f2 q (by omega) (by omega))
  have ow : ∀ x : Int, 0 ≤ x → x < 64 → -1 ≤ m1 3 x ∧ m1 3 x ≤ 1000000000 := fun x x1 x2 => by
    rw [r3]
    dsimp only
    by_cases hx : x = 8 * j + c
    · rw [if_pos hx]; omega
    · rw [if_neg hx]; exact (h.2.2.1 x x1 x2).2
  refine jK_deep (show 0 + 14 ≤ 899 by omega) (s_refC hk ow (by rw [f2 1 (by omega) (by omega)]; exact h.1.2.1) (z1 12 (by omega) (by omega)) (fun m2 f3 g3 e3 c3 => ⟨by omega, fun q hq => by rw [f3 q (by omega) (by omega)]; exact f2 q (by omega) (by omega), ?_⟩))
  refine gX11_tell 899 j c v m2 _ (s_isPair ⟨fun x => ?_, fun _ => s_in ⟨fun x => ?_, fun _ => ?_⟩⟩)
  · rw [bI_0] at x; exact absurd g x
  · rw [bI_0] at x; exact absurd (show -1 ≤ v ∧ v ≤ 1000000000 by omega) x
  rw [hw2]
  generalize hm4 : jUp m2 106 (8 * j + c) v = m4
  have f4 : ∀ q, q ≠ 106 → m4 q = m2 q := fun q hq => by rw [← hm4, up_ne hq]
  have fr : ∀ q, q ≠ 0 → q ≠ 3 → q ≠ 106 → ¬ (51 ≤ q ∧ q ≤ 59) → m4 q = m q := fun q a b c e => by rw [f4 q c, f3 q a e]; exact f2 q a b
  have r107 : m4 106 = fun x => if x = 8 * j + c then v else m 106 x := by rw [← hm4, up_fun, f3 106 (by omega) (by omega), f2 106 (by omega) (by omega)]
  have G : rG m4 = rG m := rG_q (fun q a b => fr q (by omega) (by omega) (by omega) (by omega))
  have h4 : Inv m4 := by
    refine mut_pl ?_ (by rw [f4 0 (by omega)]; exact e3) ?_
    · have u : ∀ q, q ≠ 0 → jUp m4 0 12 0 q = m4 q := fun q hq => up_ne hq
      refine Inv_mut2 h (fun q hq => by rw [u q (by omega)]; exact fr q (by omega) (by omega) (by omega) (by omega)) (by rw [up_oth (by omega), f4 0 (by omega), g3 2 (by omega), e1 2 (by omega), up_ne (by omega)]) (fun i i1 i2 => ?_) (by rw [u 1 (by omega), u 104 (by omega), fr 1 (by omega) (by omega) (by omega) (by omega), fr 104 (by omega) (by omega) (by omega) (by omega)]; exact h.1) (by rw [u 2 (by omega), u 105 (by omega), fr 2 (by omega) (by omega) (by omega) (by omega), fr 105 (by omega) (by omega) (by omega) (by omega)]; exact h.2.1) ?_ (by rw [u 4 (by omega), u 107 (by omega), fr 4 (by omega) (by omega) (by omega) (by omega), fr 107 (by omega) (by omega) (by omega) (by omega)]; exact h.2.2.2.1)
      · by_cases hi : i = 12
        · rw [hi, up_same]
        · rw [up_oth hi, f4 0 (by omega), g3 i hi]; exact z1 i i1 i2
      · rw [u 3 (by omega), u 106 (by omega), r107, f4 3 (by omega), f3 3 (by omega) (by omega), r3]
        intro x x1 x2
        dsimp only
        by_cases hx : x = 8 * j + c
        · rw [if_pos hx, if_pos hx]; omega
        · rw [if_neg hx, if_neg hx]; exact h.2.2.1 x x1 x2
    · rw [G]
      unfold cPl at c3 ⊢
      rw [cBu_q (f4 2 (by omega)) (f4 3 (by omega)), f4 54 (by omega), f4 1 (by omega), f4 57 (by omega), f4 56 (by omega), f4 4 (by omega)]
      exact ⟨c3.1, c3.2.1, c3.2.2.1, c3.2.2.2.1, pW_fr (fun q a b => f4 q (by omega)) c3.2.2.2.2⟩
  have pl4 := Inv_pl h4 (by rw [f4 0 (by omega)]; exact e3)
  have hv := (pl_v pl4).1
  rw [f4 58 (by omega)] at hv
  refine ⟨by omega, q_total h4 (by omega) (fun m5 q5 => ⟨hv, Inv_rq h4 q5, fun q hq => ?_⟩)⟩
  rw [rQt_n q5 q hq, fr q (by omega) (by omega) (by omega) (by omega)]
theorem st_feed {m : jM} (h : Inv m) (x : Int) : stp zX10_feed zX11_feed [jI x] m := by
  obtain ⟨t1, t2, t3⟩ := h.2.2.2.2.2.2.1
  have bad : ¬ (0 ≤ x ∧ x ≤ 255) → (∀ q, q < 0 → m q = m q) ∧ jK 900 zX11_feed [jO 11 103, jI x] m (fun v' m2 => -2 = v' ∧ Inv m2 ∧ ∀ q, q < 0 → m2 q = m q) := by
    intro hb
    refine ⟨fun _ _ => rfl, gX11_feed 899 x m _ (s_in ⟨fun g => ⟨rfl, h, fun _ _ => rfl⟩, fun g => ?_⟩)⟩
    rw [bI_0, Classical.not_not] at g
    exact absurd g hb
  refine gX10_feed 899 x m _ ⟨fun g => bad (by omega), fun g => ⟨fun g2 => bad (by omega), fun g2 => gX8_add 898 x m _ ⟨fun g3 => ⟨by omega, ⟨fun y => absurd y (by omega), fun _ => ?_⟩⟩, fun g3 => ⟨fun _ => ⟨fun _ _ => rfl, ?_⟩, fun y => absurd rfl y⟩⟩⟩⟩
  · rw [up_same, up_ne (show ¬ (45 : Int) = 46 by omega), w32_id (by omega) (by omega)]
    generalize hm1 : jUp (jUp m 46 (m 45 1) x) 45 1 (m 45 1 + 1) = m1
    have f1 : ∀ q, q ≠ 45 → q ≠ 46 → m1 q = m q := fun q a b => by rw [← hm1, up_ne a, up_ne b]
    have e45 : ∀ j, m1 45 j = if j = 1 then m 45 1 + 1 else m 45 j := fun j => by rw [← hm1, up_eq, up_ne (by omega)]
    have e46 : ∀ j, m1 46 j = if j = m 45 1 then x else m 46 j := fun j => by rw [← hm1, up_ne (by omega), up_eq]
    refine ⟨fun q hq => f1 q (by omega) (by omega), gX11_feed 899 x m1 _ (s_in ⟨fun y => ?_, fun _ => ?_⟩)⟩
    · rw [bI_0] at y; exact absurd (show 0 ≤ x ∧ x ≤ 255 by omega) y
    rw [f1 103 (by omega) (by omega), t1]
    refine ⟨fun y => by omega, fun _ => ⟨by omega, ?_⟩⟩
    rw [up_ne (show ¬ (103 : Int) = 118 by omega), f1 103 (by omega) (by omega), t1, w32_id (by omega) (by omega), up_same]
    refine ⟨rfl, ?_, fun q hq => by rw [up_ne (by omega), up_ne (by omega)]; exact f1 q (by omega) (by omega)⟩
    generalize hm2 : jUp (jUp m1 118 (m 45 1) x) 103 16 (m 45 1 + 1) = m2
    have f2 : ∀ q, q ≠ 45 → q ≠ 46 → q ≠ 103 → q ≠ 118 → m2 q = m q := fun q a b c d => by rw [← hm2, up_ne c, up_ne d]; exact f1 q a b
    have e104 : ∀ j, m2 103 j = if j = 16 then m 45 1 + 1 else m 103 j := fun j => by rw [← hm2, up_eq, up_ne (by omega), f1 103 (by omega) (by omega)]
    have e119 : ∀ j, m2 118 j = if j = m 45 1 then x else m 118 j := fun j => by rw [← hm2, up_ne (by omega), up_eq, f1 118 (by omega) (by omega)]
    have e45' : ∀ j, m2 45 j = if j = 1 then m 45 1 + 1 else m 45 j := fun j => by rw [← hm2, up_ne (by omega), up_ne (by omega)]; exact e45 j
    have e46' : ∀ j, m2 46 j = if j = m 45 1 then x else m 46 j := fun j => by rw [← hm2, up_ne (by omega), up_ne (by omega)]; exact e46 j
    obtain ⟨a1, a2, a3, a4, a5, a6, a7, a8, a9, a10, a11⟩ := id h
    have fq : ∀ q, q < 45 ∨ (46 < q ∧ q < 103) ∨ (103 < q ∧ q < 118) ∨ 118 < q → m2 q = m q := fun q hq => f2 q (by omega) (by omega) (by omega) (by omega)
    refine ⟨by rw [fq 1 (by omega), fq 104 (by omega)]; exact a1, by rw [fq 2 (by omega), fq 105 (by omega)]; exact a2, by rw [fq 3 (by omega), fq 106 (by omega)]; exact a3, by rw [fq 4 (by omega), fq 107 (by omega)]; exact a4,
      iRu_fr a5 a6 (fq 5 (by omega)) (fun q h => fq q (by omega)) (fun q a b => fq q (by omega)), iPr_fr a6 (fq 5 (by omega)) (by rw [e45', if_neg (by omega)]), ?_, iRo_fr a8 (by rw [e104, if_neg (by omega)]) (fun q h => fq q (by omega)), iIm_fr a9 (by rw [fq 0 (by omega)]) (by rw [e104, if_neg (by omega)]) (fun q h => fq q (by omega)), iSh_fr a10 (fun q h => fq q (by omega)), iCa_fr a11 (fun j a b => by rw [fq 0 (by omega)]) (fun q h => fq q (by omega))⟩
    unfold iTa
    rw [e45', e104, if_pos rfl, if_pos rfl]
    refine ⟨rfl, by omega, fun i i2 => ?_⟩
    rw [e46', e119]
    by_cases hi : i = m 45 1
    · rw [if_pos hi, if_pos hi]; exact ⟨rfl, fun _ => by omega⟩
    · rw [if_neg hi, if_neg hi]; exact t3 i (by omega)
  · refine gX11_feed 899 x m _ (s_in ⟨fun y => ?_, fun _ => ⟨fun _ => ⟨rfl, h, fun _ _ => rfl⟩, fun y => by omega⟩⟩)
    rw [bI_0] at y; exact absurd (show 0 ≤ x ∧ x ≤ 255 by omega) y

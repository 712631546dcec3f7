/-! image, back: the calls -/
def eqG (G G' : Int → Int → Int → Int) : Prop := ∀ r f k : Int, 0 ≤ r → r < 4 → rng f k → G' r f k = G r f k
theorem ev_G {G G' : Int → Int → Int → Int} {t : Int → Int} {j c : Int} (hG : eqG G G') (n : Nat) : ∀ {r k : Int}, 0 ≤ r → r < 4 → wf G n r k → ev G' t j c n r k = ev G t j c n r k := by
  induction n with
  | zero => intro r k _ _ h; exact h.elim
  | succ n ih =>
    intro r k r1 r2 h
    obtain ⟨hk, h⟩ := h
    have e : ∀ f, 2 ≤ f → f ≤ 8 → G' r f k = G r f k := fun f a b => hG r f k r1 r2 (Or.inr ⟨⟨a, b⟩, hk.1, hk.2.1⟩)
    rw [ev_s, ev_s, e 2 (by omega) (by omega), e 3 (by omega) (by omega), e 4 (by omega) (by omega), e 5 (by omega) (by omega), e 6 (by omega) (by omega), e 7 (by omega) (by omega), e 8 (by omega) (by omega)]
    rcases h with ⟨h, h1, h2⟩ | ⟨h, h1, h2⟩ | ⟨h, h1, h2⟩ | ⟨h, h1⟩ | ⟨h, h1, h2⟩ | ⟨h, h1, h2, h3, h4⟩
    · rw [if_pos h, if_pos h]
    · have n0 : ¬ G r 2 k = 0 := by omega
      rw [if_neg n0, if_pos h, if_neg n0, if_pos h]
    · have n0 : ¬ G r 2 k = 0 := by omega
      have n1 : ¬ G r 2 k = 1 := by omega
      rw [if_neg n0, if_neg n1, if_pos h, if_neg n0, if_neg n1, if_pos h]
      rw [hG (G r 3 k) 0 0 h1.1 h1.2 (Or.inl ⟨rfl, Or.inl rfl⟩), hG (G r 3 k) 1 0 h1.1 h1.2 (Or.inl ⟨rfl, Or.inr rfl⟩)]
      rcases h2 with g | g
      · rw [if_pos g, if_pos g]
      · rw [ih h1.1 h1.2 g]
    · rw [ih r1 r2 h1]
      have n0 : ¬ G r 2 k = 0 := by omega
      have n1 : ¬ G r 2 k = 1 := by omega
      have n2 : ¬ G r 2 k = 2 := by omega
      rw [if_neg n0, if_neg n1, if_neg n2, if_neg n0, if_neg n1, if_neg n2]
      rcases h with h | h
      · rw [if_pos h, if_pos h]
      · have n6 : ¬ G r 2 k = 6 := by omega
        rw [if_neg n6, if_pos h, if_neg n6, if_pos h]
    · have n0 : ¬ G r 2 k = 0 := by omega
      have n1 : ¬ G r 2 k = 1 := by omega
      have n2 : ¬ G r 2 k = 2 := by omega
      have n6 : ¬ G r 2 k = 6 := by omega
      have n7 : ¬ G r 2 k = 7 := by omega
      have n12 : ¬ G r 2 k = 12 := by omega
      rw [ih r1 r2 h1, ih r1 r2 h2, if_neg n0, if_neg n1, if_neg n2, if_neg n6, if_neg n7, if_neg n12, if_neg n0, if_neg n1, if_neg n2, if_neg n6, if_neg n7, if_neg n12]
    · have n0 : ¬ G r 2 k = 0 := by omega
      have n1 : ¬ G r 2 k = 1 := by omega
      have n2 : ¬ G r 2 k = 2 := by omega
      have n6 : ¬ G r 2 k = 6 := by omega
      have n7 : ¬ G r 2 k = 7 := by omega
      rw [ih r1 r2 h1, ih r1 r2 h2, ih r1 r2 h3, ih r1 r2 h4, if_neg n0, if_neg n1, if_neg n2, if_neg n6, if_neg n7, if_pos h, if_neg n0, if_neg n1, if_neg n2]
theorem gVal_G {G G' : Int → Int → Int → Int} {t : Int → Int} {j c r : Int} (hG : eqG G G') (r1 : 0 ≤ r) (r2 : r < 4) (hw : G r 0 0 = 0 ∨ wf G 100 r (G r 1 0)) : gVal G' t j c r = gVal G t j c r := by
  unfold gVal
  rw [hG r 0 0 r1 r2 (Or.inl ⟨rfl, Or.inl rfl⟩), hG r 1 0 r1 r2 (Or.inl ⟨rfl, Or.inr rfl⟩)]
  by_cases g : G r 0 0 = 0
  · rw [if_pos g, if_pos g]
  · rw [if_neg g, if_neg g]
    rcases hw with w | w
    · exact absurd w g
    · exact ev_G hG 100 r1 r2 w
theorem cPl_c {G G' : Int → Int → Int → Int} {m : jM} (hb : ∀ j c : Int, 0 ≤ j → j < 8 → 0 ≤ c → c < 8 → cBu G' m j c = cBu G m j c) (h : cPl G m) : cPl G' m := by
  obtain ⟨c1, c2, c3, c4, c5⟩ := h
  refine ⟨c1, c2, fun j c p q r s => ?_, fun x p q => ?_, c5⟩
  · have e : gO (bt (m 1 0)) (bt (m 1 1)) (cBu G' m) (m 4) j c = gO (bt (m 1 0)) (bt (m 1 1)) (cBu G m) (m 4) j c := gO_c p q r s rfl rfl (hb j c p q r s) (fun _ _ _ => rfl)
    rw [e, hb j c p q r s]
    exact c3 j c p q r s
  · rw [hb (x / 8) (x % 8) (by omega) (by omega) (by omega) (by omega)]
    exact c4 x p q
theorem kpE_G {m m' : jM} (k : kpE m m') : eqG (rG m) (kG m') := by
  intro r f k' r1 r2 hf
  obtain ⟨_, _, _, _, e1, e2, _, e3⟩ := k
  rcases hf with ⟨hk, hf⟩ | ⟨hf, k1, k2⟩
  · rcases hf with rfl | rfl
    · exact e1 r r1 r2
    · exact e2 r r1 r2
  · have e := e3 (f - 2) (24 * r + k') (by omega) (by omega) (by omega) (by omega)
    have h7 : f = 2 ∨ f = 3 ∨ f = 4 ∨ f = 5 ∨ f = 6 ∨ f = 7 ∨ f = 8 := by omega
    have ek : kG m' r f k' = m' 156 (96 * (f - 2) + (24 * r + k')) := by
      unfold kG
      rw [if_neg (by omega), if_neg (by omega), show 96 * (f - 2) + 24 * r + k' = 96 * (f - 2) + (24 * r + k') by omega]
    rw [ek, e]
    rcases h7 with rfl | rfl | rfl | rfl | rfl | rfl | rfl <;> rfl
theorem kpB_G {m m' : jM} (k : kpB m m') : eqG (kG m) (rG m') := by
  intro r f k' r1 r2 hf
  obtain ⟨_, _, _, _, e1, e2, _, e3⟩ := k
  rcases hf with ⟨hk, hf⟩ | ⟨hf, k1, k2⟩
  · rcases hf with rfl | rfl
    · exact e1 r r1 r2
    · exact e2 r r1 r2
  · have e := e3 (f - 2) (24 * r + k') (by omega) (by omega) (by omega) (by omega)
    have h7 : f = 2 ∨ f = 3 ∨ f = 4 ∨ f = 5 ∨ f = 6 ∨ f = 7 ∨ f = 8 := by omega
    have ek : kG m r f k' = m 156 (96 * (f - 2) + (24 * r + k')) := by
      unfold kG
      rw [if_neg (by omega), if_neg (by omega), show 96 * (f - 2) + 24 * r + k' = 96 * (f - 2) + (24 * r + k') by omega]
    rw [ek, ← e]
    rcases h7 with rfl | rfl | rfl | rfl | rfl | rfl | rfl <;> rfl
theorem r_plan_im {d : Nat} {m m2 : jM} {Q : Int → jM → Prop} (h : Inv m) (f : ∀ q, q ≠ 0 → ¬ (23 ≤ q ∧ q ≤ 44) → m2 q = m q) (f0 : ∀ j, j ≠ 2 → m2 0 j = m 0 j) (hd : 14 ≤ d) (hQ : ∀ m3 : jM, (∀ q, q ≠ 0 → ¬ (51 ≤ q ∧ q ≤ 59) → m3 q = m2 q) → (∀ j, j ≠ 12 → m3 0 j = m2 0 j) → iCa m3 → iPl m3 → Q 0 m3) : jK d zX10_refreshPlan [jO 10 0] m2 Q := by
  have hca := h.2.2.2.2.2.2.2.2.2.2
  by_cases z : m2 0 12 = 0
  · obtain ⟨rk, hk⟩ := cOk_mut (m1 := m2) h (by rw [f 2 (by omega) (by omega)]; exact (Inv_tbd h).1) (f 5 (by omega) (by omega)) (fun q hq => f q (by omega) (by omega))
    refine jK_deep (show 0 + 14 ≤ d by omega) (s_refC hk (fun x x1 x2 => by rw [f 3 (by omega) (by omega)]; exact (h.2.2.1 x x1 x2).2) (by rw [f 1 (by omega) (by omega)]; exact h.1.2.1) z (fun m3 f3 g3 e3 c3 => ?_))
    have fm : ∀ q, q ≠ 0 → ¬ (23 ≤ q ∧ q ≤ 44) → ¬ (51 ≤ q ∧ q ≤ 59) → m3 q = m q := fun q a b c => by rw [f3 q a c]; exact f q a b
    have pl : iPl m3 := by
      refine cPl_i (fun j j1 j2 => ?_) (fun c c1 c2 => ?_) (fun j c j1 j2 c1 c2 => ?_) (fun x x1 x2 => ?_) c3
      · rw [fm 1 (by omega) (by omega) (by omega), fm 104 (by omega) (by omega) (by omega)]; exact Inv_J h j1 j2
      · rw [fm 1 (by omega) (by omega) (by omega), fm 104 (by omega) (by omega) (by omega)]; exact Inv_C h c1 c2
      · rw [cBu_q (fm 2 (by omega) (by omega) (by omega)) (fm 3 (by omega) (by omega) (by omega)), rBu_q (fun q a b => fm q (by omega) (by omega) (by omega))]; exact Inv_bu h j1 j2 c1 c2
      · rw [fm 4 (by omega) (by omega) (by omega), fm 107 (by omega) (by omega) (by omega)]; exact (h.2.2.2.1 x x1 x2).1.symm
    have z0 : m 0 12 = 0 := by rw [← f0 12 (by omega)]; exact z
    refine hQ m3 f3 g3 ⟨Or.inr ⟨e3, pl⟩, Or.inl ?_, Or.inl ?_, Or.inl ?_⟩ pl
    · rw [g3 13 (by omega), f0 13 (by omega)]
      rcases hca.2.1 with x | x
      · exact x
      · have := x.2.1; omega
    · rw [g3 14 (by omega), f0 14 (by omega)]
      rcases hca.2.2.1 with x | x
      · exact x
      · have := x.2.1; omega
    · rw [g3 15 (by omega), f0 15 (by omega)]
      rcases hca.2.2.2 with x | x
      · exact x
      · have := x.2.1; omega
  · have ca2 : iCa m2 := iCa_fr hca (fun j a b => f0 j (by omega)) (fun q hq => f q (by omega) (by omega))
    refine jK_deep (show 9 + 1 ≤ d by omega) (gX10_refreshPlan 9 m2 Q ⟨fun w => absurd w z, fun _ => hQ m2 (fun _ _ _ => rfl) (fun _ _ => rfl) ca2 ?_⟩)
    rcases ca2.1 with x | x
    · exact absurd x z
    · exact x.2
theorem st_image {m : jM} (h : Inv m) : stp zX10_image zX11_image [] m := by
  obtain ⟨a1, a2, a3, a4, ⟨rk, a5⟩, a6, a7, a8, a9, a10, a11⟩ := id h
  have cells : ∀ i : Int, 0 ≤ i → i < 4 → (7 ≤ m 5 i ∧ m 5 i ≤ 19) ∨ m 5 i = 47 := fun i i1 i2 => by
    have := a6.1 i i1 i2
    unfold rcl at this
    omega
  refine gX10_image 899 m _ (jK_deep (show 0 + 2 ≤ 899 by omega) (s_ctake (p0 := 23) (p1 := 1) (pd := fun i => 29 + 4 * i) (ps := m 5) (fun i i1 i2 => ⟨a9.1 i i1 i2, rfl⟩) (fun i j i1 i2 j1 j2 => by have := cells j j1 j2; omega) (fun i j i1 i2 j1 j2 hne => by omega) (fun i i1 i2 => by have := cells i i1 i2; omega) (by omega) (fun m1 f1 e0 e1 e2 e3 ec => ?_)))
  generalize hm2 : jUp m1 0 2 1 = m2
  have f1' : ∀ q, ¬ (23 ≤ q ∧ q ≤ 26) → ¬ (29 ≤ q ∧ q ≤ 44) → m1 q = m q := fun q a b => f1 q (by omega) (fun i i1 i2 => by omega)
  have f2 : ∀ q, q ≠ 0 → m2 q = m1 q := fun q hq => by rw [← hm2, up_ne hq]
  have g2 : ∀ j, j ≠ 2 → m2 0 j = m 0 j := fun j hj => by rw [← hm2, up_oth hj, f1' 0 (by omega) (by omega)]
  have e02 : m2 0 2 = 1 := by rw [← hm2, up_same]
  have fm2 : ∀ q, q ≠ 0 → ¬ (23 ≤ q ∧ q ≤ 26) → ¬ (29 ≤ q ∧ q ≤ 44) → m2 q = m q := fun q a b c => by rw [f2 q a]; exact f1' q b c
  refine r_plan_im h (fun q a b => fm2 q a (by omega) (by omega)) g2 (by omega) (fun m3 f3 g3 ca3 pl3 => jK_deep (show 0 + 2 ≤ 899 by omega) (s_openPairs (E := iO m3) pl3.2.1 pl3.2.2.1.2.1 ?_))
  have fm3 : ∀ q, q ≠ 0 → ¬ (23 ≤ q ∧ q ≤ 26) → ¬ (29 ≤ q ∧ q ≤ 44) → ¬ (51 ≤ q ∧ q ≤ 59) → m3 q = m q := fun q a b c d => by rw [f3 q a d]; exact fm2 q a b c
  have eO : iO m3 = iO m := iO_q (fun q a b => fm3 q (by omega) (by omega) (by omega) (by omega))
  rw [eO]
  refine ⟨fun q hq => fm3 q (by omega) (by omega) (by omega) (by omega), gX11_image 899 m3 _ (jK_deep (show 0 + 2 ≤ 899 by omega) (s_keeps0 (fun m4 f4 k4 => ?_)))⟩
  generalize hm5 : jUp m4 103 68 1 = m5
  have f5 : ∀ q, q ≠ 103 → m5 q = m4 q := fun q hq => by rw [← hm5, up_ne hq]
  have g5 : ∀ j, j ≠ 68 → m5 103 j = m4 103 j := fun j hj => by rw [← hm5, up_oth hj]
  have e568 : m5 103 68 = 1 := by rw [← hm5, up_same]
  refine q_costs2 h (fun q a b => by rw [f5 q (by omega), f4 q (by omega)]; exact fm3 q (by omega) (by omega) (by omega) (by omega)) (by omega) (fun m6 q6 al => jK_deep (show 0 + 1 ≤ 899 by omega) (s_openMany (E := iO m) al.2.1 ⟨rfl, ?_, fun q hq => ?_⟩))
  · have r : ∀ q, q ≠ 103 → ¬ (119 ≤ q ∧ q ≤ 137) → ¬ (144 ≤ q ∧ q ≤ 148 ∧ q ≠ 146) → m6 q = m4 q := fun q a b c => by rw [q6.1 q a b c]; exact f5 q a
    have rm : ∀ q, q ≠ 0 → ¬ (23 ≤ q ∧ q ≤ 26) → ¬ (29 ≤ q ∧ q ≤ 44) → ¬ (51 ≤ q ∧ q ≤ 59) → q ≠ 103 → ¬ (119 ≤ q ∧ q ≤ 137) → ¬ (144 ≤ q ∧ q ≤ 148 ∧ q ≠ 146) → ¬ (149 ≤ q ∧ q ≤ 156) → m6 q = m q := fun q a b c d e f g i => by
      rw [r q e f g, f4 q i]; exact fm3 q a b c d
    have g : ∀ q, (1 ≤ q ∧ q ≤ 22) ∨ q = 27 ∨ (45 ≤ q ∧ q ≤ 50) ∨ (60 ≤ q ∧ q ≤ 102) ∨ (104 ≤ q ∧ q ≤ 118) ∨ (138 ≤ q ∧ q ≤ 143) ∨ q = 146 ∨ 157 ≤ q → m6 q = m q := fun q hq => rm q (by omega) (by omega) (by omega) (by omega) (by omega) (by omega) (by omega) (by omega)
    have kept : ∀ q, 149 ≤ q → q ≤ 156 → m6 q = m4 q := fun q a b => r q (by omega) (by omega) (by omega)
    have ref3 : ∀ q, 104 ≤ q → q ≤ 117 → m3 q = m q := fun q a b => fm3 q (by omega) (by omega) (by omega) (by omega)
    have cls : ∀ q, 23 ≤ q → q ≤ 44 → m6 q = m1 q := fun q a b => by rw [r q (by omega) (by omega) (by omega), f4 q (by omega), f3 q (by omega) (by omega), f2 q (by omega)]
    have h104 : ∀ j, j ≠ 68 → (j = 16 ∨ j = 50) → m6 103 j = m 103 j := fun j a b => by rw [q6.2 j (by omega), g5 j a, f4 103 (by omega), fm3 103 (by omega) (by omega) (by omega) (by omega)]
    refine ⟨by rw [g 1 (by omega), g 104 (by omega)]; exact a1, by rw [g 2 (by omega), g 105 (by omega)]; exact a2, by rw [g 3 (by omega), g 106 (by omega)]; exact a3, by rw [g 4 (by omega), g 107 (by omega)]; exact a4,
      iRu_fr ⟨rk, a5⟩ a6 (g 5 (by omega)) (fun q h => g q (by omega)) (fun q a b => g q (by omega)), iPr_fr a6 (g 5 (by omega)) (by rw [g 45 (by omega)]), iTa_fr a7 (by rw [g 45 (by omega)]) (h104 16 (by omega) (by omega)) (g 46 (by omega)) (g 118 (by omega)),
      iRo_fr a8 (h104 50 (by omega) (by omega)) (fun q h => g q (by omega)), ⟨by rw [g 27 (by omega)]; exact a9.1, ?_, Or.inr ⟨?_, ?_, ?_, ?_, ?_, rk, ?_⟩⟩, iSh_fr a10 (fun q h => g q (by omega)), iCa_fr ca3 (fun j a b => by rw [r 0 (by omega) (by omega) (by omega), f4 0 (by omega)]) (fun q hq => by rw [r q (by omega) (by omega) (by omega), f4 q (by omega)])⟩
    · rw [q6.2 68 (by omega), e568, r 0 (by omega) (by omega) (by omega), f4 0 (by omega), g3 2 (by omega), e02]
    · rw [r 0 (by omega) (by omega) (by omega), f4 0 (by omega), g3 2 (by omega), e02]
    · obtain ⟨b0, b1, b2⟩ := a1
      refine ⟨by rw [cls 23 (by omega) (by omega), e0]; exact b0, by rw [cls 23 (by omega) (by omega), e1]; exact b1, fun j j1 j2 => ?_⟩
      rw [kept 149 (by omega) (by omega), cls 23 (by omega) (by omega), k4.1 j j1 (by omega), k4.1 (8 + j) (by omega) (by omega), ref3 104 (by omega) (by omega), e0, e1]
      exact b2 j j1 j2
    · intro y y1 y2
      have := e2 y y1 y2
      rw [kept 150 (by omega) (by omega), cls 24 (by omega) (by omega), k4.2.1 y y1 y2, ref3 105 (by omega) (by omega)]
      rw [show m1 24 y = m 2 y from this]
      exact a2 y y1 y2
    · intro y y1 y2
      have := (e3 y y1 y2).1
      rw [kept 151 (by omega) (by omega), cls 25 (by omega) (by omega), k4.2.2.1 y y1 y2, ref3 106 (by omega) (by omega)]
      rw [show m1 25 y = m 3 y from this]
      exact a3 y y1 y2
    · intro y y1 y2
      have := (e3 y y1 y2).2
      rw [kept 152 (by omega) (by omega), cls 26 (by omega) (by omega), k4.2.2.2.1 y y1 y2, ref3 107 (by omega) (by omega)]
      rw [show m1 26 y = m 4 y from this]
      exact a4 y y1 y2
    · have n4 : ∀ y : Int, 0 ≤ y → y < 16 → m6 155 y = m 110 y := fun y y1 y2 => by rw [kept 155 (by omega) (by omega), k4.2.2.2.2.2.2.1 y y1 y2, ref3 110 (by omega) (by omega)]
      refine ⟨⟨a5.1.1, fun r q r1 r2 q1 q2 hb => a5.1.2 r q r1 r2 q1 q2 (by rw [← n4 _ (by omega) (by omega)]; exact hb)⟩, fun r r1 r2 => ?_⟩
      dsimp only
      have hG : eqG (rG m3) (kG m4) := kpE_G k4
      rw [rG_q (fun q a b => ref3 q (by omega) b)] at hG
      have ek : kG m6 = kG m4 := kG_q (fun q a b => kept q (by omega) b)
      rw [ek]
      refine ru1_G (G := rG m) (nm := m 110) (fun f k hf => hG r f k r1 r2 hf) (fun q q1 q2 => n4 _ (by omega) (by omega)) (ru1_cp (m := m) (p := m 5 r) ?_ (a5.2 r r1 r2))
      have := ec r r1 r2
      unfold cpR at this ⊢
      rw [cls (29 + 4 * r) (by omega) (by omega), cls (29 + 4 * r + 1) (by omega) (by omega), cls (29 + 4 * r + 2) (by omega) (by omega), cls (29 + 4 * r + 3) (by omega) (by omega)]
      exact this
  · rw [rQt_n q6 q hq, f5 q (by omega), f4 q (by omega)]; exact fm3 q (by omega) (by omega) (by omega) (by omega)
theorem st_back {m : jM} (h : Inv m) : stp zX10_back zX11_back [] m := by
  obtain ⟨a1, a2, a3, a4, a5, a6, a7, a8, a9, a10, a11⟩ := id h
  obtain ⟨b1, b2, b3⟩ := a9
  rcases b3 with b3 | ⟨b3, k1, k2, k3, k4, rk, k5⟩
  · exact gX10_back 899 m _ ⟨fun _ => ⟨fun _ _ => rfl, gX11_back 899 m _ ⟨fun _ => ⟨rfl, h, fun _ _ => rfl⟩, fun w => absurd (by rw [b2]; exact b3) w⟩⟩, fun w => absurd b3 w⟩
  have cells : ∀ i : Int, 0 ≤ i → i < 4 → rcl (m 5 i) := fun i i1 i2 => a6.1 i i1 i2
  have cells' : ∀ i : Int, 0 ≤ i → i < 4 → (7 ≤ m 5 i ∧ m 5 i ≤ 19) ∨ m 5 i = 47 := fun i i1 i2 => by
    have := a6.1 i i1 i2
    unfold rcl at this
    omega
  refine gX10_back 899 m _ ⟨fun w => by omega, fun _ => jK_deep (show 0 + 2 ≤ 899 by omega) (s_ctake (p0 := 1) (p1 := 23) (pd := m 5) (ps := fun i => 29 + 4 * i) (fun i i1 i2 => ⟨rfl, b1 i i1 i2⟩) (fun i j i1 i2 j1 j2 => by have := cells' i i1 i2; omega) (fun i j i1 i2 j1 j2 hne => ?_) (fun i i1 i2 => by have := cells' i i1 i2; omega) (by omega) (fun m1 f1 e0 e1 e2 e3 ec => ?_))⟩
  · have p := cells i i1 i2
    have q := cells j j1 j2
    have n := a6.2.2.2 i j i1 i2 j1 j2 hne
    unfold rcl at p q
    omega
  have f1' : ∀ q, ¬ (1 ≤ q ∧ q ≤ 4) → ¬ (7 ≤ q ∧ q ≤ 22) → ¬ (47 ≤ q ∧ q ≤ 50) → m1 q = m q := fun q a b c => f1 q (by omega) (fun i i1 i2 => by have := cells' i i1 i2; omega)
  refine s_changed (fun m2 f2 g2 z2 => ?_)
  have fm2 : ∀ q, q ≠ 0 → ¬ (1 ≤ q ∧ q ≤ 4) → ¬ (7 ≤ q ∧ q ≤ 22) → ¬ (47 ≤ q ∧ q ≤ 50) → m2 q = m q := fun q a b c d => by rw [f2 q a]; exact f1' q b c d
  have e5 : m2 5 = m 5 := fm2 5 (by omega) (by omega) (by omega) (by omega)
  have cp2 : ∀ r : Int, 0 ≤ r → r < 4 → cpR m m2 (29 + 4 * r) (m 5 r) := fun r r1 r2 => by
    have c := cells' r r1 r2
    have := ec r r1 r2
    unfold cpR at this ⊢
    rw [f2 (m 5 r) (by omega), f2 (m 5 r + 1) (by omega), f2 (m 5 r + 2) (by omega), f2 (m 5 r + 3) (by omega)]
    exact this
  have t2 : ∀ y : Int, 0 ≤ y → y < 48 → m2 2 y = m 24 y := fun y y1 y2 => by rw [f2 2 (by omega)]; exact e2 y y1 y2
  have t3 : ∀ y : Int, 0 ≤ y → y < 64 → m2 3 y = m 25 y ∧ m2 4 y = m 26 y := fun y y1 y2 => by rw [f2 3 (by omega), f2 4 (by omega)]; exact e3 y y1 y2
  have t1 : m2 1 0 = m 23 0 ∧ m2 1 1 = m 23 1 := by rw [f2 1 (by omega)]; exact ⟨e0, e1⟩
  have rul2 : rul (m2 5) (kG m) (m 155) rk m2 := ⟨k5.1, fun r r1 r2 => by rw [e5]; exact ru1_cp (cp2 r r1 r2) (k5.2 r r1 r2)⟩
  have ck : cOk (kG m) rk m2 := rul_cOk rul2 (fun q q1 q2 => by rw [e5]; have := cells' q q1 q2; omega) (fun y y1 y2 => by rw [t2 y y1 y2]; exact (k2 y y1 y2).2)
  have wk : kG m 0 0 0 = 0 ∨ wf (kG m) 100 0 (kG m 0 1 0) := rul_w rul2 (by omega) (by omega)
  refine jK_deep (show 0 + 14 ≤ 899 by omega) (s_refC ck (fun y y1 y2 => by rw [(t3 y y1 y2).1]; exact (k3 y y1 y2).2) (by rw [t1.2]; exact k1.2.1) (z2 12 (by omega) (by omega)) (fun m3 f3 g3 e3' c3 => jK_deep (show 0 + 2 ≤ 899 by omega) (s_openPairs (E := pO (m3 57)) c3.2.1 (fun _ _ _ _ _ _ => rfl) ?_)))
  have fm3 : ∀ q, q ≠ 0 → ¬ (1 ≤ q ∧ q ≤ 4) → ¬ (7 ≤ q ∧ q ≤ 22) → ¬ (47 ≤ q ∧ q ≤ 50) → ¬ (51 ≤ q ∧ q ≤ 59) → m3 q = m q := fun q a b c d e => by rw [f3 q a e]; exact fm2 q a b c d
  refine ⟨fun q hq => fm3 q (by omega) (by omega) (by omega) (by omega) (by omega), gX11_back 899 m3 _ ⟨fun w => ?_, fun _ => jK_deep (show 0 + 2 ≤ 899 by omega) (s_keeps1 (fun m4 f4 k4' => ?_))⟩⟩
  · rw [fm3 103 (by omega) (by omega) (by omega) (by omega) (by omega), b2] at w; omega
  -- the state behind both
  have fm4 : ∀ q, q ≠ 0 → ¬ (1 ≤ q ∧ q ≤ 4) → ¬ (7 ≤ q ∧ q ≤ 22) → ¬ (47 ≤ q ∧ q ≤ 50) → ¬ (51 ≤ q ∧ q ≤ 59) → ¬ (104 ≤ q ∧ q ≤ 117) → m4 q = m q := fun q a b c d e f => by rw [f4 q f]; exact fm3 q a b c d e
  have m43 : ∀ q, q < 104 → m4 q = m3 q := fun q hq => f4 q (by omega)
  have m42 : ∀ q, q ≠ 0 → q < 51 → m4 q = m2 q := fun q a b => by rw [m43 q (by omega), f3 q a (by omega)]
  have kk : ∀ q, 149 ≤ q → q ≤ 156 → m3 q = m q := fun q a b => fm3 q (by omega) (by omega) (by omega) (by omega) (by omega)
  have hG : eqG (kG m) (rG m4) := by
    have := kpB_G k4'
    rw [kG_q (fun q a b => kk q (by omega) b)] at this
    exact this
  have n4 : ∀ y : Int, 0 ≤ y → y < 16 → m4 110 y = m 155 y := fun y y1 y2 => by rw [k4'.2.2.2.2.2.2.1 y y1 y2, kk 155 (by omega) (by omega)]
  have h4 : Inv m4 := by
    refine mut_pl ?_ (by rw [m43 0 (by omega)]; exact e3') ?_
    · have u : ∀ q, q ≠ 0 → jUp m4 0 12 0 q = m4 q := fun q hq => up_ne hq
      have g : ∀ q, q = 5 ∨ (23 ≤ q ∧ q ≤ 46) ∨ (75 ≤ q ∧ q ≤ 77) ∨ (94 ≤ q ∧ q ≤ 103) ∨ 118 ≤ q → jUp m4 0 12 0 q = m q := fun q hq => by rw [u q (by omega)]; exact fm4 q (by omega) (by omega) (by omega) (by omega) (by omega) (by omega)
      refine ⟨?_, ?_, ?_, ?_, ⟨rk, ?_⟩, iPr_fr a6 (g 5 (by omega)) (by rw [g 45 (by omega)]), iTa_fr a7 (by rw [g 45 (by omega)]) (by rw [g 103 (by omega)]) (g 46 (by omega)) (g 118 (by omega)),
        iRo_fr a8 (by rw [g 103 (by omega)]) (fun q h => g q (by omega)), iIm_fr ⟨b1, b2, Or.inr ⟨b3, k1, k2, k3, k4, rk, k5⟩⟩ (by rw [up_oth (by omega), m43 0 (by omega), g3 2 (by omega), g2 2 (by omega), f1' 0 (by omega) (by omega) (by omega)]) (by rw [g 103 (by omega)]) (fun q h => g q (by omega)), iSh_fr a10 (fun q h => g q (by omega)), iCa_0 (fun j j1 j2 => ?_)⟩
      · rw [u 1 (by omega), u 104 (by omega), m42 1 (by omega) (by omega)]
        refine ⟨by rw [t1.1]; exact k1.1, by rw [t1.2]; exact k1.2.1, fun j j1 j2 => ?_⟩
        rw [k4'.1 j j1 (by omega), k4'.1 (8 + j) (by omega) (by omega), kk 149 (by omega) (by omega), t1.1, t1.2]
        exact k1.2.2 j j1 j2
      · rw [u 2 (by omega), u 105 (by omega), m42 2 (by omega) (by omega)]
        intro y y1 y2
        rw [k4'.2.1 y y1 y2, kk 150 (by omega) (by omega), t2 y y1 y2]
        exact k2 y y1 y2
      · rw [u 3 (by omega), u 106 (by omega), m42 3 (by omega) (by omega)]
        intro y y1 y2
        rw [k4'.2.2.1 y y1 y2, kk 151 (by omega) (by omega), (t3 y y1 y2).1]
        exact k3 y y1 y2
      · rw [u 4 (by omega), u 107 (by omega), m42 4 (by omega) (by omega)]
        intro y y1 y2
        rw [k4'.2.2.2.1 y y1 y2, kk 152 (by omega) (by omega), (t3 y y1 y2).2]
        exact k4 y y1 y2
      · rw [g 5 (by omega), rG_q (fun q a b => u q (by omega)), u 110 (by omega)]
        refine ⟨⟨k5.1.1, fun r q r1 r2 q1 q2 hb => k5.1.2 r q r1 r2 q1 q2 (by rw [← n4 _ (by omega) (by omega)]; exact hb)⟩, fun r r1 r2 => ?_⟩
        refine ru1_G (G := kG m) (nm := m 155) (fun f k hf => hG r f k r1 r2 hf) (fun q q1 q2 => n4 _ (by omega) (by omega)) (ru1_cp (m := m) (p := 29 + 4 * r) ?_ (k5.2 r r1 r2))
        have c := cells' r r1 r2
        have := cp2 r r1 r2
        unfold cpR at this ⊢
        rw [u (m 5 r) (by omega), u (m 5 r + 1) (by omega), u (m 5 r + 2) (by omega), u (m 5 r + 3) (by omega), m42 (m 5 r) (by omega) (by omega), m42 (m 5 r + 1) (by omega) (by omega), m42 (m 5 r + 2) (by omega) (by omega), m42 (m 5 r + 3) (by omega) (by omega)]
        exact this
      · by_cases hj : j = 12
        · rw [hj, up_same]
        · rw [up_oth hj, m43 0 (by omega), g3 j hj]; exact z2 j j1 j2
    · have c4 : cPl (kG m) m4 := by
        unfold cPl at c3 ⊢
        rw [cBu_q (m43 2 (by omega)) (m43 3 (by omega)), m43 54 (by omega), m43 1 (by omega), m43 57 (by omega), m43 56 (by omega), m43 4 (by omega)]
        exact ⟨c3.1, c3.2.1, c3.2.2.1, c3.2.2.2.1, pW_fr (fun q a b => m43 q (by omega)) c3.2.2.2.2⟩
      refine cPl_c (fun j c j1 j2 c1 c2 => ?_) c4
      unfold cBu burF cV0
      rw [gVal_G hG (by omega) (by omega) wk]
  have pl4 := Inv_pl h4 (by rw [m43 0 (by omega)]; exact e3')
  refine q_costs h4 (by omega) (fun m5 h5 q5 al _ => jK_deep (show 0 + 1 ≤ 899 by omega) (s_openMany (E := iO m4) al.2.1 ⟨?_, h5, fun q hq => by rw [rQt_n q5 q hq]; exact fm4 q (by omega) (by omega) (by omega) (by omega) (by omega) (by omega)⟩))
  refine pcn_ext (fun p p1 p2 => ?_)
  have := pl4.2.2.1.2.1 (p / 8) (p % 8) (by omega) (by omega) (by omega) (by omega)
  rw [m43 57 (by omega)] at this
  exact this

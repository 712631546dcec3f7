/-! what the relation gives; what is reckoned of the court -/
theorem ev_t {G : Int → Int → Int → Int} {t t' : Int → Int} {j c : Int} (ht : ∀ x : Int, 0 ≤ x → x < 48 → t x = t' x) (hj : 0 ≤ j ∧ j < 8) (hc : 0 ≤ c ∧ c < 8) (n : Nat) : ∀ {r k : Int}, wf G n r k → ev G t j c n r k = ev G t' j c n r k := by
  induction n with
  | zero => intro r k h; exact h.elim
  | succ n ih =>
    intro r k h
    obtain ⟨_, h⟩ := h
    rw [ev_s, ev_s]
    rcases h with ⟨h, h1, h2⟩ | ⟨h, h1, h2⟩ | ⟨h, h1, h2⟩ | ⟨h, h1⟩ | ⟨h, h1, h2⟩ | ⟨h, h1, h2, h3, h4⟩
    · rw [if_pos h, if_pos h]
    · have n0 : ¬ G r 2 k = 0 := by omega
      rw [if_neg n0, if_pos h, if_neg n0, if_pos h]
      by_cases g : G r 3 k < 3
      · rw [if_pos g, if_pos g, ht _ (by omega) (by omega)]
      · rw [if_neg g, if_neg g, ht _ (by omega) (by omega)]
    · have n0 : ¬ G r 2 k = 0 := by omega
      have n1 : ¬ G r 2 k = 1 := by omega
      rw [if_neg n0, if_neg n1, if_pos h, if_neg n0, if_neg n1, if_pos h]
      rcases h2 with g | g
      · rw [if_pos g, if_pos g]
      · rw [ih g]
    · have n0 : ¬ G r 2 k = 0 := by omega
      have n1 : ¬ G r 2 k = 1 := by omega
      have n2 : ¬ G r 2 k = 2 := by omega
      rw [ih h1, if_neg n0, if_neg n1, if_neg n2, if_neg n0, if_neg n1, if_neg n2]
      rcases h with h | h
      · rw [if_pos h, if_pos h]
      · have n6 : ¬ G r 2 k = 6 := by omega
        rw [if_neg n6, if_pos h, if_neg n6, if_pos h]
    · have n0 : ¬ G r 2 k = 0 := by omega
      have n1 : ¬ G r 2 k = 1 := by omega
      have n2 : ¬ G r 2 k = 2 := by omega
      have n6 : ¬ G r 2 k = 6 := by omega
      have n7 : ¬ G r 2 k = 7 := by omega
      have n12 : ¬ G r 2 k = 12 := by omega
      rw [ih h1, ih h2, if_neg n0, if_neg n1, if_neg n2, if_neg n6, if_neg n7, if_neg n12, if_neg n0, if_neg n1, if_neg n2, if_neg n6, if_neg n7, if_neg n12]
    · have n0 : ¬ G r 2 k = 0 := by omega
      have n1 : ¬ G r 2 k = 1 := by omega
      have n2 : ¬ G r 2 k = 2 := by omega
      have n6 : ¬ G r 2 k = 6 := by omega
      have n7 : ¬ G r 2 k = 7 := by omega
      rw [ih h1, ih h2, ih h3, ih h4, if_neg n0, if_neg n1, if_neg n2, if_neg n6, if_neg n7, if_pos h, if_neg n0, if_neg n1, if_neg n2]
theorem gVal_t {G : Int → Int → Int → Int} {t t' : Int → Int} {j c r : Int} (ht : ∀ x : Int, 0 ≤ x → x < 48 → t x = t' x) (hj : 0 ≤ j ∧ j < 8) (hc : 0 ≤ c ∧ c < 8) (hw : G r 0 0 = 0 ∨ wf G 100 r (G r 1 0)) : gVal G t j c r = gVal G t' j c r := by
  unfold gVal
  by_cases g : G r 0 0 = 0
  · rw [if_pos g, if_pos g]
  · rw [if_neg g, if_neg g]
    rcases hw with w | w
    · exact absurd w g
    · exact ev_t ht hj hc 100 w
theorem Inv_tbd {m : jM} (h : Inv m) : tbd (m 2) ∧ tbd (m 105) := ⟨fun x x1 x2 => (h.2.1 x x1 x2).2, fun x x1 x2 => by rw [(h.2.1 x x1 x2).1]; exact (h.2.1 x x1 x2).2⟩
theorem Inv_cOk {m : jM} (h : Inv m) : ∃ rk, cOk (rG m) rk m := by
  have ht := (Inv_tbd h).1
  obtain ⟨a1, a2, a3, a4, ⟨rk, a5⟩, a6, a7⟩ := h
  refine ⟨rk, rul_cOk a5 (fun q q1 q2 => ?_) ht⟩
  have := a6.1 q q1 q2
  unfold rcl at this
  omega
theorem Inv_rROk {m : jM} (h : Inv m) : rROk m := by
  obtain ⟨a1, a2, a3, a4, ⟨rk, a5⟩, a6⟩ := h
  exact fun q q1 q2 => rul_w a5 q1 q2
theorem Inv_bu {m : jM} (h : Inv m) {j c : Int} (j1 : 0 ≤ j) (j2 : j < 8) (c1 : 0 ≤ c) (c2 : c < 8) : cBu (rG m) m j c = rBu m j c := by
  unfold cBu rBu burF cV0 rV0
  rw [gVal_t (t := m 2) (t' := m 105) (fun x x1 x2 => (h.2.1 x x1 x2).1.symm) ⟨j1, j2⟩ ⟨c1, c2⟩ (Inv_rROk h 0 (by omega) (by omega)), (h.2.2.1 (8 * j + c) (by omega) (by omega)).1]
theorem Inv_bb {m : jM} (h : Inv m) {j c : Int} (j1 : 0 ≤ j) (j2 : j < 8) (c1 : 0 ≤ c) (c2 : c < 8) : -1 ≤ rBu m j c ∧ rBu m j c ≤ 1000000000 := by
  refine burF_b ?_ (gVal_b (Inv_tbd h).2 ⟨j1, j2⟩ ⟨c1, c2⟩ (Inv_rROk h 0 (by omega) (by omega)))
  rw [(h.2.2.1 (8 * j + c) (by omega) (by omega)).1]
  exact (h.2.2.1 (8 * j + c) (by omega) (by omega)).2
theorem Inv_B {m : jM} (h : Inv m) : dpB (iO m) (rBu m) := gO_B (fun j c j1 j2 c1 c2 => Inv_bb h j1 j2 c1 c2)
theorem Inv_J {m : jM} (h : Inv m) {j : Int} (j1 : 0 ≤ j) (j2 : j < 8) : bt (m 1 0) j = rJ (m 104) j := by
  have := (h.1.2.2 j j1 j2).1
  unfold rJ
  rw [this]
  cases bt (m 1 0) j <;> decide
theorem Inv_C {m : jM} (h : Inv m) {j : Int} (j1 : 0 ≤ j) (j2 : j < 8) : bt (m 1 1) j = rC (m 104) j := by
  have := (h.1.2.2 j j1 j2).2
  unfold rC
  rw [this]
  cases bt (m 1 1) j <;> decide
theorem gO_c {J J' C C' : Int → Bool} {bu bu' : Int → Int → Int} {mk mk' : Int → Int} {j c : Int} (j1 : 0 ≤ j) (j2 : j < 8) (c1 : 0 ≤ c) (c2 : c < 8) (hJ : J j = J' j) (hC : C c = C' c) (hb : bu j c = bu' j c) (hm : ∀ x : Int, 0 ≤ x → x < 64 → mk x = mk' x) : gO J C bu mk j c = gO J' C' bu' mk' j c := by
  refine bool_eq ?_
  rw [gO_iff, gO_iff, hJ, hC, hb, hm (8 * j + c) (by omega) (by omega)]
  have : noFo mk j c ↔ noFo mk' j c := by
    unfold noFo
    constructor
    · intro h k k1 k2
      rw [← hm (8 * j + k) (by omega) (by omega), ← hm (8 * k + c) (by omega) (by omega)]
      exact h k k1 k2
    · intro h k k1 k2
      rw [hm (8 * j + k) (by omega) (by omega), hm (8 * k + c) (by omega) (by omega)]
      exact h k k1 k2
  rw [this]
theorem s_refreshPlan {d : Nat} {m : jM} {Q : Int → jM → Prop} (h : Inv m) (hQ : ∀ m', Inv m' → m' 0 12 = 1 → (∀ q, q ≠ 0 → ¬ (51 ≤ q ∧ q ≤ 59) → m' q = m q) → (∀ j, j ≠ 12 → m' 0 j = m 0 j) → Q 0 m') : jK (d + 14) zX10_refreshPlan [jO 10 0] m Q := by
  obtain ⟨rk, hk⟩ := Inv_cOk h
  have hB := Inv_B h
  have bu := @Inv_bu m h
  have jj := @Inv_J m h
  have cc := @Inv_C m h
  obtain ⟨a1, a2, a3, a4, a5, a6, a7, a8, a9, a10, a11⟩ := id h
  refine gX10_refreshPlan (d + 13) m Q ⟨fun g => ?_, fun g => hQ m h ?_ (fun _ _ _ => rfl) (fun _ _ => rfl)⟩
  · refine s_load hk (fun x x1 x2 => (a3 x x1 x2).2) (fun m1 f1 e1 e2 e3 e4 e5 => ?_)
    have gg : ∀ j c : Int, 0 ≤ j → j < 8 → 0 ≤ c → c < 8 → gO (bt (m 1 0)) (bt (m 1 1)) (cBu (rG m) m) (m 4) j c = iO m j c := fun j c j1 j2 c1 c2 =>
      gO_c j1 j2 c1 c2 (jj j1 j2) (cc c1 c2) (bu j1 j2 c1 c2) (fun x x1 x2 => (a4 x x1 x2).1.symm)
    have al : alk (pO (m1 57)) (rB (m1 56)) (bt (m1 54 0)) (iO m) (rBu m) (rC (m 104)) := by
      refine ⟨fun c c1 c2 => by rw [e1]; exact cc c1 c2, fun j c j1 j2 c1 c2 => by rw [(e4 j c j1 j2 c1 c2).1, gg j c j1 j2 c1 c2], fun j c j1 j2 c1 c2 hO => ?_⟩
      have := e4 j c j1 j2 c1 c2
      rw [this.2 (by rw [← this.1]; exact hO), bu j1 j2 c1 c2]
    have f0 : m1 0 = m 0 := f1 0 (by omega) (by omega) (by omega) (by omega) (by omega) (by omega)
    refine jK_deep (show d + 3 ≤ d + 13 by omega) (s_weigh (p := 54) (by rw [e1]; exact a1.2.1) e3 (alk_B (alk_s al) hB) (fun m2 f2 e6 w2 => ?_))
    have fr : ∀ q, q ≠ 0 → ¬ (51 ≤ q ∧ q ≤ 59) → jUp m2 0 12 1 q = m q := fun q q0 q1 => by
      rw [up_ne q0, f2 q (by omega) (by omega) (by omega) (by omega), f1 q (by omega) (by omega) (by omega) (by omega) (by omega) (by omega)]
    have fz : ∀ j, j ≠ 12 → jUp m2 0 12 1 0 j = m 0 j := fun j hj => by
      rw [up_oth hj, f2 0 (by omega) (by omega) (by omega) (by omega), f0]
    have c57 : m2 57 = m1 57 := f2 57 (by omega) (by omega) (by omega) (by omega)
    have c56 : m2 56 = m1 56 := f2 56 (by omega) (by omega) (by omega) (by omega)
    have c540 : m2 54 0 = m1 54 0 := e6 0 (by omega) (by omega)
    refine hQ _ ?_ up_same fr fz
    refine ⟨by rw [fr 1 (by omega) (by omega), fr 104 (by omega) (by omega)]; exact a1, by rw [fr 2 (by omega) (by omega), fr 105 (by omega) (by omega)]; exact a2, by rw [fr 3 (by omega) (by omega), fr 106 (by omega) (by omega)]; exact a3, by rw [fr 4 (by omega) (by omega), fr 107 (by omega) (by omega)]; exact a4,
      iRu_fr a5 a6 (fr 5 (by omega) (by omega)) (fun q g => fr q (by omega) (by omega)) (fun q a b => fr q (by omega) (by omega)), iPr_fr a6 (fr 5 (by omega) (by omega)) (by rw [fr 45 (by omega) (by omega)]), iTa_fr a7 (by rw [fr 45 (by omega) (by omega)]) (by rw [fr 103 (by omega) (by omega)]) (fr 46 (by omega) (by omega)) (fr 118 (by omega) (by omega)),
      iRo_fr a8 (by rw [fr 103 (by omega) (by omega)]) (fun q g => fr q (by omega) (by omega)), iIm_fr a9 (fz 2 (by omega)) (by rw [fr 103 (by omega) (by omega)]) (fun q g => fr q (by omega) (by omega)), iSh_fr a10 (fun q g => fr q (by omega) (by omega)), ?_⟩
    have z : ∀ j, 13 ≤ j → j ≤ 15 → jUp m2 0 12 1 0 j = 0 := by
      intro j j1 j2
      rw [fz j (by omega)]
      obtain ⟨_, b, c, e⟩ := a11
      have hj : j = 13 ∨ j = 14 ∨ j = 15 := by omega
      rcases hj with rfl | rfl | rfl
      · rcases b with b | b
        · exact b
        · omega
      · rcases c with b | b
        · exact b
        · omega
      · rcases e with b | b
        · exact b
        · omega
    refine ⟨Or.inr ⟨up_same, ?_⟩, Or.inl (z 13 (by omega) (by omega)), Or.inl (z 14 (by omega) (by omega)), Or.inl (z 15 (by omega) (by omega))⟩
    have u : ∀ q, q ≠ 0 → jUp m2 0 12 1 q = m2 q := fun q hq => up_ne hq
    have rows : ∀ q, 104 ≤ q → q ≤ 117 → jUp m2 0 12 1 q = m q := fun q _ _ => fr q (by omega) (by omega)
    unfold iPl
    rw [u 54 (by omega), u 57 (by omega), u 56 (by omega), c57, c56, c540, fr 1 (by omega) (by omega), iO_q rows, rBu_q (fun q a b => rows q (by omega) b), rows 104 (by omega) (by omega)]
    refine ⟨e1, e3, al, fun x x1 x2 => ?_, pW_fr (fun q a b => u q (by omega)) w2⟩
    rw [e5 x x1 x2, bu (by omega) (by omega) (by omega) (by omega), jj (by omega) (by omega), cc (by omega) (by omega)]
  · rcases a11.1 with x | x
    · exact absurd x g
    · exact x.1
theorem Inv_pl {m : jM} (h : Inv m) (g : m 0 12 = 1) : iPl m := by
  obtain ⟨a1, a2, a3, a4, a5, a6, a7, a8, a9, a10, a11⟩ := h
  rcases a11.1 with x | x
  · omega
  · exact x.2
theorem iPl_B {m : jM} (h : Inv m) (p : iPl m) : dpB (pO (m 57)) (rB (m 56)) := alk_B (alk_s p.2.2.1) (Inv_B h)
theorem Inv_ca {m m' : jM} (h : Inv m) (f : ∀ q, q ≠ 0 → ¬ (51 ≤ q ∧ q ≤ 93) → m' q = m q) (f7 : ∀ q, 75 ≤ q → q ≤ 77 → m' q = m q) (h0 : m' 0 2 = m 0 2) (hc : iCa m') : Inv m' := by
  obtain ⟨a1, a2, a3, a4, a5, a6, a7, a8, a9, a10, a11⟩ := h
  refine ⟨by rw [f 1 (by omega) (by omega), f 104 (by omega) (by omega)]; exact a1, by rw [f 2 (by omega) (by omega), f 105 (by omega) (by omega)]; exact a2, by rw [f 3 (by omega) (by omega), f 106 (by omega) (by omega)]; exact a3, by rw [f 4 (by omega) (by omega), f 107 (by omega) (by omega)]; exact a4,
    iRu_fr a5 a6 (f 5 (by omega) (by omega)) (fun q g => f q (by omega) (by omega)) (fun q a b => f q (by omega) (by omega)), iPr_fr a6 (f 5 (by omega) (by omega)) (by rw [f 45 (by omega) (by omega)]), iTa_fr a7 (by rw [f 45 (by omega) (by omega)]) (by rw [f 103 (by omega) (by omega)]) (f 46 (by omega) (by omega)) (f 118 (by omega) (by omega)),
    iRo_fr a8 (by rw [f 103 (by omega) (by omega)]) (fun q g => by by_cases g2 : q ≤ 77; exact f7 q (by omega) g2; exact f q (by omega) (by omega)), iIm_fr a9 h0 (by rw [f 103 (by omega) (by omega)]) (fun q g => f q (by omega) (by omega)), iSh_fr a10 (fun q g => f q (by omega) (by omega)), hc⟩
/-- what a call of the class that only reckons leaves alone -/
def cQt (m m' : jM) : Prop := (∀ q, q ≠ 0 → ¬ (51 ≤ q ∧ q ≤ 93 ∧ ¬ (75 ≤ q ∧ q ≤ 77)) → m' q = m q) ∧ ∀ j, ¬ (12 ≤ j ∧ j ≤ 15) → m' 0 j = m 0 j
theorem cQt_r (m : jM) : cQt m m := ⟨fun _ _ _ => rfl, fun _ _ => rfl⟩
theorem cQt_t {m m1 m2 : jM} (h : cQt m m1) (h' : cQt m1 m2) : cQt m m2 := ⟨fun q a b => by rw [h'.1 q a b, h.1 q a b], fun j a => by rw [h'.2 j a, h.2 j a]⟩
theorem r_plan {d : Nat} {m : jM} {Q : Int → jM → Prop} (h : Inv m) (hQ : ∀ m', Inv m' → m' 0 12 = 1 → iPl m' → cQt m m' → Q 0 m') (hd : 14 ≤ d) : jK d zX10_refreshPlan [jO 10 0] m Q :=
  jK_deep (show 0 + 14 ≤ d by omega) (s_refreshPlan h (fun m' h1 h2 h3 h4 => hQ m' h1 h2 (Inv_pl h1 h2) ⟨fun q a b => h3 q a (by omega), fun j a => h4 j (by omega)⟩))
theorem r_shares {d : Nat} {m : jM} {Q : Int → jM → Prop} (h : Inv m) (hQ : ∀ m', Inv m' → m' 0 12 = 1 → iPl m' → iSs m' → cQt m m' → Q 0 m') (hd : 15 ≤ d) : jK d zX10_refreshShares [jO 10 0] m Q := by
  refine jK_deep (show 14 + 1 ≤ d by omega) (gX10_refreshShares 14 m Q (r_plan h (fun m1 h1 p1 pl1 q1 => ⟨fun g => ?_, fun g => ?_⟩) (by omega)))
  · have hB := iPl_B h1 pl1
    refine jK_deep (show 0 + 3 ≤ 14 by omega) (s_share (p := 54) pl1.2.2.2.2 pl1.2.1 hB (fun m2 f2 w2 => ?_))
    have fr : ∀ q, q ≠ 0 → q ≠ 60 → q ≠ 61 → jUp m2 0 13 1 q = m1 q := fun q q0 q1 q2 => by rw [up_ne q0, f2 q q1 q2]
    have fz : ∀ j, j ≠ 13 → jUp m2 0 13 1 0 j = m1 0 j := fun j hj => by rw [up_oth hj, f2 0 (by omega) (by omega)]
    have pl2 : iPl (jUp m2 0 13 1) := iPl_fr pl1 (fun q g => fr q (by omega) (by omega) (by omega))
    have ss2 : iSs (jUp m2 0 13 1) := by
      intro j c j1 j2 c1 c2
      rw [up_ne (show ¬ (61 : Int) = 0 by omega), iO_q (fun q a b => fr q (by omega) (by omega) (by omega)), rBu_q (fun q a b => fr q (by omega) (by omega) (by omega)), fr 104 (by omega) (by omega) (by omega)]
      exact (w2 j c j1 j2 c1 c2).trans (alk_cw pl1.2.2.1 (Nat.le_refl 8) 0 j c)
    obtain ⟨a1, a2, a3, a4, a5, a6, a7, a8, a9, a10, ⟨b1, b2, b3, b4⟩⟩ := id h1
    have i2 : Inv (jUp m2 0 13 1) := by
      refine Inv_ca h1 (fun q a b => fr q a (by omega) (by omega)) (fun q a b => fr q (by omega) (by omega) (by omega)) (fz 2 (by omega)) ?_
      have w12 : jUp m2 0 13 1 0 12 = 1 := by rw [fz 12 (by omega)]; exact p1
      refine ⟨Or.inr ⟨w12, pl2⟩, Or.inr ⟨up_same, w12, ss2⟩, ?_, ?_⟩
      · rw [fz 14 (by omega)]
        exact b3.imp id (fun x => ⟨x.1, w12, iNx_fr x.2.2 (fun q g => fr q (by omega) (by omega) (by omega))⟩)
      · rw [fz 15 (by omega)]
        exact b4.imp id (fun x => ⟨x.1, w12, iDy_fr x.2.2 (fun q g => fr q (by omega) (by omega) (by omega))⟩)
    exact hQ _ i2 (by rw [fz 12 (by omega)]; exact p1) pl2 ss2 (cQt_t q1 ⟨fun q a b => fr q a (by omega) (by omega), fun j a => fz j (by omega)⟩)
  · refine hQ m1 h1 p1 pl1 ?_ q1
    obtain ⟨a1, a2, a3, a4, a5, a6, a7, a8, a9, a10, ⟨b1, b2, b3, b4⟩⟩ := id h1
    rcases b2 with x | x
    · exact absurd x g
    · exact x.2.2
theorem r_next {d : Nat} {m : jM} {Q : Int → jM → Prop} (h : Inv m) (hQ : ∀ m', Inv m' → m' 0 12 = 1 → iPl m' → iNx m' → cQt m m' → Q 0 m') (hd : 15 ≤ d) : jK d zX10_refreshNextOnes [jO 10 0] m Q := by
  refine jK_deep (show 14 + 1 ≤ d by omega) (gX10_refreshNextOnes 14 m Q (r_plan h (fun m1 h1 p1 pl1 q1 => ⟨fun g => ?_, fun g => ?_⟩) (by omega)))
  · have hB := iPl_B h1 pl1
    refine jK_deep (show 0 + 4 ≤ 14 by omega) (s_nfind pl1.2.2.2.2 hB (fun m2 T f2 t2 z2 w2 => ?_))
    have fr : ∀ q, q ≠ 0 → (q < 81 ∨ 87 < q) → jUp m2 0 14 1 q = m1 q := fun q q0 q1 => by rw [up_ne q0, f2 q q1]
    have fz : ∀ j, j ≠ 14 → jUp m2 0 14 1 0 j = m1 0 j := fun j hj => by rw [up_oth hj, f2 0 (by omega)]
    have pl2 : iPl (jUp m2 0 14 1) := iPl_fr pl1 (fun q g => fr q (by omega) (by omega))
    have nx2 : iNx (jUp m2 0 14 1) := by
      unfold iNx
      rw [up_ne (show ¬ (81 : Int) = 0 by omega), up_ne (show ¬ (82 : Int) = 0 by omega), up_ne (show ¬ (83 : Int) = 0 by omega), iO_q (fun q a b => fr q (by omega) (by omega)), rBu_q (fun q a b => fr q (by omega) (by omega)), fr 104 (by omega) (by omega)]
      refine ⟨T, alk_top pl1.2.2.1 t2, z2, fun i i1 i2 => ⟨?_, (w2 i i1 i2).2⟩⟩
      rw [(w2 i i1 i2).1]
      exact tot_congr pl1.2.2.1.2.2 8 (Nat.le_refl 8) 0 _ (t2.2.1 _ (gtD_mem i1 i2))
    obtain ⟨a1, a2, a3, a4, a5, a6, a7, a8, a9, a10, ⟨b1, b2, b3, b4⟩⟩ := id h1
    have i2 : Inv (jUp m2 0 14 1) := by
      refine Inv_ca h1 (fun q a b => fr q a (by omega)) (fun q a b => fr q (by omega) (by omega)) (fz 2 (by omega)) ?_
      have w12 : jUp m2 0 14 1 0 12 = 1 := by rw [fz 12 (by omega)]; exact p1
      refine ⟨Or.inr ⟨w12, pl2⟩, ?_, Or.inr ⟨up_same, w12, nx2⟩, ?_⟩
      · rw [fz 13 (by omega)]
        exact b2.imp id (fun x => ⟨x.1, w12, iSs_fr x.2.2 (fun q g => fr q (by omega) (by omega))⟩)
      · rw [fz 15 (by omega)]
        exact b4.imp id (fun x => ⟨x.1, w12, iDy_fr x.2.2 (fun q g => fr q (by omega) (by omega))⟩)
    exact hQ _ i2 (by rw [fz 12 (by omega)]; exact p1) pl2 nx2 (cQt_t q1 ⟨fun q a b => fr q a (by omega), fun j a => fz j (by omega)⟩)
  · refine hQ m1 h1 p1 pl1 ?_ q1
    obtain ⟨a1, a2, a3, a4, a5, a6, a7, a8, a9, a10, ⟨b1, b2, b3, b4⟩⟩ := id h1
    rcases b3 with x | x
    · exact absurd x g
    · exact x.2.2

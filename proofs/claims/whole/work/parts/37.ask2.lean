/-! without -/
noncomputable def oX (o : Int → Int → Bool) (s : Int) : Int → Int → Bool := fun j c => o j c && decide (j ≠ s)
def cX1 (C : Int → Bool) (s : Int) : Int → Bool := fun c => C c && decide (c ≠ s)
noncomputable def vWo (m : jM) (a s : Int) : Int := if a = 0 then toN (dpt 0 (oX (iO m) s) (rBu m) (rC (m 104)) 8 0).1 else toN (dpt 0 (iO m) (rBu m) (cX1 (rC (m 104)) s) 8 0).1
theorem oX_o {o : Int → Int → Bool} {s j c : Int} (h : oX o s j c = true) : o j c = true := by
  unfold oX at h
  rw [Bool.and_eq_true] at h
  exact h.1
theorem vWo_q {m m' : jM} (h : ∀ q, 104 ≤ q → q ≤ 117 → m' q = m q) (a s : Int) : vWo m' a s = vWo m a s := by
  unfold vWo
  rw [iO_q h, rBu_q (fun q a b => h q (by omega) b), h 104 (by omega) (by omega)]
theorem s_closeJudge {d : Nat} {s : Int} {m : jM} {Q : Int → jM → Prop} (hs : 0 ≤ s ∧ s < 8) (hr : ∀ c : Int, 0 ≤ c → c < 8 → mk8 (m 65 c)) (h : ∀ m' : jM, (∀ q, q ≠ 65 → m' q = m q) → (∀ c : Int, 0 ≤ c → c < 8 → mk8 (m' 65 c) ∧ ∀ j : Int, 0 ≤ j → j < 8 → bt (m' 65 c) j = (bt (m 65 c) j && decide (j ≠ s))) → Q 0 m') : jK (d + 1) zX4_closeJudge [jO 4 62, jI s] m Q := by
  have loop : ∀ (k : Nat) (i : Int) (mm : jM), 0 ≤ i → i + k = 8 → (∀ q, q ≠ 65 → mm q = m q) → (∀ c : Int, 0 ≤ c → c < 8 → mm 65 c = if c < i then iAnd (m 65 c) (iXor (iShl 1 s) (-1)) else m 65 c) → aX4_closeJudge_2 d 62 s i mm Q := by
    intro k
    induction k with
    | zero =>
      intro i mm i0 ik f e
      refine gX4_closeJudge_2 d 62 s i mm Q ⟨fun q => by omega, fun _ => h mm f (fun c c1 c2 => ?_)⟩
      rw [e c c1 c2, if_pos (by omega)]
      refine ⟨mk_andl (hr c c1 c2), fun j j1 j2 => ?_⟩
      rw [bt_and, bt_not (by omega), bt_one (by omega) (by omega)]
      simp
    | succ k ih =>
      intro i mm i0 ik f e
      refine gX4_closeJudge_2 d 62 s i mm Q ⟨fun q => ⟨by omega, by omega, ?_⟩, fun q => by omega⟩
      rw [w32_id (by omega) (by omega)]
      refine ih (i + 1) _ (by omega) (by omega) (fun q hq => by rw [up_ne (show ¬ q = 62 + 3 by omega)]; exact f q hq) (fun c c1 c2 => ?_)
      show jUp mm 65 i (iAnd (mm 65 i) (iXor (iShl 1 s) (-1))) 65 c = _
      rw [up_eq]
      by_cases hc : c = i
      · rw [if_pos hc, if_pos (by omega), e i i0 (by omega), if_neg (by omega), hc]
      · rw [if_neg hc, e c c1 c2]
        by_cases hc2 : c < i
        · rw [if_pos hc2, if_pos (by omega)]
        · rw [if_neg hc2, if_neg (by omega)]
  exact gX4_closeJudge d 62 s m Q (loop 8 0 m (by omega) (by omega) (fun _ _ => rfl) (fun c c1 c2 => by rw [if_neg (by omega)]))
theorem c_without {d : Nat} {a s : Int} {m : jM} {Q : Int → jM → Prop} (h : Inv m) (hd : 20 ≤ d) (hB : ¬ ((0 ≤ a ∧ a ≤ 1) ∧ 0 ≤ s ∧ s ≤ 7) → Q (-4611686018427387904) m) (hQ : ((0 ≤ a ∧ a ≤ 1) ∧ 0 ≤ s ∧ s ≤ 7) → ∀ m', Inv m' → cQt m m' → Q (vWo m' a s) m') : jK d zX10_without [jO 10 0, jI a, jI s] m Q := by
  refine jK_deep (show 19 + 1 ≤ d by omega) (gX10_without 19 a s m Q (s_isSide ⟨fun g => ?_, fun g => s_isSeat ⟨fun g2 => ?_, fun g2 => ?_⟩⟩))
  · rw [bI_0] at g; exact hB (fun x => g x.1)
  · rw [bI_0] at g2; exact hB (fun x => g2 x.2)
  · rw [bI_0, Classical.not_not] at g g2
    refine r_plan h (fun m1 h1 p1 pl1 q1 => jK_deep (show 0 + 1 ≤ 19 by omega) (s_take62 (fun m2 f2 e62 e62' e64 e65 => ?_))) (by omega)
    have hB1 := Inv_B h1
    have al := al_th pl1 e62 e64 e65
    have b62 : mk8 (m2 62 0) := by rw [e62, pl1.1]; exact h1.1.2.1
    have r65 : ∀ c : Int, 0 ≤ c → c < 8 → mk8 (m2 65 c) := fun c a b => by rw [e65 c a b]; exact pl1.2.1 c a b
    have fin : ∀ (mm m3 : jM), (∀ q, q ≠ 62 → q ≠ 65 → mm q = m2 q) → (∀ q, q ≠ 62 → q ≠ 63 → q ≠ 66 → q ≠ 67 → m3 q = mm q) → m3 66 0 = vWo m1 a s → Q (m3 66 0) m3 := by
      intro mm m3 fm f3 e3
      have fr : ∀ q, q ≠ 62 → q ≠ 63 → q ≠ 64 → q ≠ 65 → q ≠ 66 → q ≠ 67 → m3 q = m1 q := fun q a b c d e f => by rw [f3 q a b e f, fm q a d, f2 q a c d]
      have h3 : Inv m3 := Inv_cq h1 (fun q _ a => fr q (by omega) (by omega) (by omega) (by omega) (by omega) (by omega)) (fr 0 (by omega) (by omega) (by omega) (by omega) (by omega) (by omega))
      have := hQ ⟨g, g2⟩ m3 h3 (cQt_t q1 ⟨fun q a b => fr q (by omega) (by omega) (by omega) (by omega) (by omega) (by omega), fun j _ => by rw [fr 0 (by omega) (by omega) (by omega) (by omega) (by omega) (by omega)]⟩)
      rw [vWo_q (fun q a b => fr q (by omega) (by omega) (by omega) (by omega) (by omega) (by omega)), ← e3] at this
      exact this
    refine ⟨fun w0 => jK_deep (show 0 + 1 ≤ 19 by omega) (s_closeJudge (by omega) r65 (fun m3 f3 e3 => ?_)), fun w0 => ?_⟩
    · have alX : alk (pO (m3 65)) (rB (m3 64)) (bt (m3 62 0)) (oX (iO m1) s) (rBu m1) (rC (m1 104)) := by
        rw [f3 64 (by omega), f3 62 (by omega)]
        have ho : ∀ j' c' : Int, 0 ≤ j' → j' < 8 → 0 ≤ c' → c' < 8 → pO (m3 65) j' c' = oX (iO m1) s j' c' := by
          intro j' c' a b x y
          unfold oX
          rw [← al.2.1 j' c' a b x y]
          exact (e3 c' x y).2 j' a b
        exact ⟨al.1, ho, fun j' c' a b x y z => al.2.2 j' c' a b x y (by rw [al.2.1 j' c' a b x y]; rw [ho j' c' a b x y] at z; exact oX_o z)⟩
      refine th_weigh (by rw [f3 62 (by omega)]; exact b62) (fun c a b => (e3 c a b).1) (alk_B (alk_s alX) (dpB_w hB1 (fun j c => oX_o))) (alk_dp alX 0 (Nat.le_refl 8) 0) (by omega) (fun m4 f4 _ e4 => ⟨by omega, fin m3 m4 (fun q _ hq => f3 q hq) f4 ?_⟩)
      rw [e4]; unfold vWo; rw [if_pos w0]
    · have hx : ∀ q, q ≠ 62 → jUp m2 62 0 (iAnd (m2 62 0) (iXor (iShl 1 s) (-1))) q = m2 q := fun q hq => up_ne hq
      have hB2 : dpB (pO (m2 65)) (rB (m2 64)) := alk_B (alk_s al) hB1
      refine th_weigh (o := iO m1) (b := rBu m1) (C := cX1 (rC (m1 104)) s) (by rw [up_same]; exact mk_andl b62) (fun c a b => by rw [hx 65 (by omega)]; exact r65 c a b) (by rw [hx 65 (by omega), hx 64 (by omega)]; exact hB2) ?_ (by omega) (fun m4 f4 _ e4 => ⟨by omega, fin _ m4 (fun q hq _ => hx q hq) f4 ?_⟩)
      · rw [hx 65 (by omega), hx 64 (by omega), up_same]
        refine dpt_congr (fun c a b => ?_) (fun j c a b x y _ => al.2.1 j c a b x y) (fun j c a b x y _ z => al.2.2 j c a b x y z) 8 (Nat.le_refl 8) 0
        unfold cX1
        rw [bt_and, bt_not (by omega), bt_one (by omega) (by omega), ← al.1 c a b]
        simp
      · rw [e4]; unfold vWo; rw [if_neg w0]
theorem q_without {d : Nat} {a s : Int} {m : jM} {Q : Int → jM → Prop} (h : Inv m) (hd : 330 ≤ d) (hB : ¬ ((0 ≤ a ∧ a ≤ 1) ∧ 0 ≤ s ∧ s ≤ 7) → Q (-4611686018427387904) m) (hQ : ((0 ≤ a ∧ a ≤ 1) ∧ 0 ≤ s ∧ s ≤ 7) → ∀ m', rQt m m' → Q (vWo m a s) m') : jK d zX11_without [jO 11 103, jI a, jI s] m Q := by
  refine jK_deep (show 329 + 1 ≤ d by omega) (gX11_without 329 a s m Q (s_isWho ⟨fun g => ?_, fun g => ?_⟩))
  · rw [bI_0] at g; exact hB g
  · rw [bI_0, Classical.not_not] at g
    have hw : w32 (w32 (8 * a) + s) = 8 * a + s := by rw [w32_id (z := 8 * a) (by omega) (by omega), w32_id (by omega) (by omega)]
    rw [hw]
    refine ⟨by omega, by omega, ?_⟩
    generalize hm1 : jUp m 104 (8 * a + s) 0 = m1
    have f1 : ∀ q, q ≠ 104 → m1 q = m q := fun q hq => by rw [← hm1]; exact up_ne hq
    have e105 : ∀ x, m1 104 x = if x = 8 * a + s then 0 else m 104 x := fun x => by rw [← hm1]; exact up_eq
    have b1 : rBu m1 = rBu m := rBu_q (fun q a b => f1 q (by omega))
    have hR : rROk m1 := by
      have := Inv_rROk h
      unfold rROk at this ⊢
      rw [rG_q (fun q a b => f1 q (by omega))]
      exact this
    have ht : tbd (m1 105) := by rw [f1 105 (by omega)]; exact (Inv_tbd h).2
    have hB1 : dpB (gO (rJ (m1 104)) (rC (m1 104)) (rBu m1) (m1 107)) (rBu m1) := by
      rw [b1]
      exact gO_B (fun j c j1 j2 c1 c2 => Inv_bb h j1 j2 c1 c2)
    refine jK_deep (show 328 + 1 ≤ 329 by omega) (gX11_total 328 m1 _ (jK_deep (show 0 + 307 ≤ 328 by omega) (s_costs hR ht (fun m2 f2 f3 f4 f5 => ?_))))
    have f2' : ∀ q, q ≠ 103 → q ≠ 127 → q ≠ 128 → m2 q = m1 q := f2
    have al : alk (rO (m2 128)) (rB (m2 128)) (rC (m2 104)) (gO (rJ (m1 104)) (rC (m1 104)) (rBu m1) (m1 107)) (rBu m1) (rC (m1 104)) :=
      ⟨fun c c1 c2 => by rw [f2' 104 (by omega) (by omega) (by omega)], fun j c j1 j2 c1 c2 => (f5 j c j1 j2 c1 c2).1, fun j c j1 j2 c1 c2 hO => (f5 j c j1 j2 c1 c2).2 (by rw [← (f5 j c j1 j2 c1 c2).1]; exact hO)⟩
    refine q_least al hB1 (by omega) (fun m3 f6 q3 r3 e3 => s_toldOr ⟨by omega, ?_⟩)
    have key : toN (dpt 0 (gO (rJ (m1 104)) (rC (m1 104)) (rBu m1) (m1 107)) (rBu m1) (rC (m1 104)) 8 0).1 = vWo m a s := by
      unfold vWo
      rw [b1, f1 107 (by omega)]
      by_cases w0 : a = 0
      · rw [if_pos w0]
        have eC : ∀ c : Int, 0 ≤ c → c < 8 → rC (m1 104) c = rC (m 104) c := fun c c1 c2 => by unfold rC; rw [e105, if_neg (by omega)]
        have eJ : ∀ j : Int, 0 ≤ j → j < 8 → (rJ (m1 104) j = true ↔ rJ (m 104) j = true ∧ j ≠ s) := fun j j1 j2 => by
          unfold rJ
          rw [e105]
          by_cases hj : j = s
          · rw [if_pos (by omega)]; simp [hj]
          · rw [if_neg (by omega)]; simp [hj]
        rw [dpt_congr (o' := oX (iO m) s) (b' := rBu m) (C' := rC (m 104)) eC (fun j c j1 j2 c1 c2 _ => ?_) (fun _ _ _ _ _ _ _ _ => rfl) 8 (Nat.le_refl 8) 0]
        refine bool_eq ?_
        unfold oX iO
        rw [Bool.and_eq_true, gO_iff, gO_iff, eJ j j1 j2, eC c c1 c2, decide_eq_true_eq]
        constructor
        · rintro ⟨⟨x1, x2⟩, x3⟩; exact ⟨⟨x1, x3⟩, x2⟩
        · rintro ⟨⟨x1, x3⟩, x2⟩; exact ⟨⟨x1, x2⟩, x3⟩
      · rw [if_neg w0]
        have eC : ∀ c : Int, 0 ≤ c → c < 8 → rC (m1 104) c = cX1 (rC (m 104)) s c := fun c c1 c2 => by
          unfold cX1 rC
          rw [e105]
          by_cases hc : c = s
          · rw [if_pos (by omega)]; simp [hc]
          · rw [if_neg (by omega)]; simp [hc]
        have eJ : ∀ j : Int, 0 ≤ j → j < 8 → rJ (m1 104) j = rJ (m 104) j := fun j j1 j2 => by unfold rJ; rw [e105, if_neg (by omega)]
        rw [dpt_congr (o' := iO m) (b' := rBu m) (C' := cX1 (rC (m 104)) s) eC (fun j c j1 j2 c1 c2 hc => ?_) (fun _ _ _ _ _ _ _ _ => rfl) 8 (Nat.le_refl 8) 0]
        refine bool_eq ?_
        unfold iO
        rw [eC c c1 c2] at hc
        have hc' : rC (m 104) c = true := by unfold cX1 at hc; rw [Bool.and_eq_true] at hc; exact hc.1
        rw [gO_iff, gO_iff, eJ j j1 j2, eC c c1 c2, hc, hc']
    rw [key]
    refine hQ g _ ⟨fun q a1 a2 a3 => ?_, fun j hj => ?_⟩
    · by_cases hq : q = 104
      · rw [hq]
        funext x
        rw [up_eq]
        by_cases hx : x = 8 * a + s
        · rw [if_pos hx, hx]
        · rw [if_neg hx, f6 104 (by omega) (by omega), f2' 104 (by omega) (by omega) (by omega), e105, if_neg hx]
      · rw [up_ne hq, f6 q (by omega) (by omega), f2' q a1 (by omega) (by omega), f1 q hq]
    · rw [up_ne (by omega), f6 103 (by omega) (by omega), f3 j (by omega), f1 103 (by omega)]
/-! next ones -/
def nxV (m : jM) (i w v : Int) : Prop := ∃ T : List (List Int), Top (tot (rBu m) 8) (mts (iO m) (rC (m 104)) 8 0) T ∧ v = if i < T.length then (if w = -1 then tot (rBu m) 8 (gtD T i) else (gtD T i).getD w.toNat (-1)) else -4611686018427387904
theorem nxV_q {m m' : jM} (h : ∀ q, 104 ≤ q → q ≤ 117 → m' q = m q) {i w v : Int} (x : nxV m i w v) : nxV m' i w v := by
  unfold nxV
  rw [iO_q h, rBu_q (fun q a b => h q (by omega) b), h 104 (by omega) (by omega)]
  exact x
theorem nxV_u {m : jM} {i w v v' : Int} (h : nxV m i w v) (h' : nxV m i w v') : v = v' := by
  obtain ⟨T, a, b⟩ := h
  obtain ⟨T', a', b'⟩ := h'
  rw [top_uniq a a'] at b
  rw [b, b']
theorem c_next {d : Nat} {i w : Int} {m : jM} {Q : Int → jM → Prop} (h : Inv m) (hd : 20 ≤ d) (hB : ¬ ((0 ≤ i ∧ i ≤ 11) ∧ -1 ≤ w ∧ w ≤ 7) → Q (-4611686018427387904) m) (hQ : ((0 ≤ i ∧ i ≤ 11) ∧ -1 ≤ w ∧ w ≤ 7) → ∀ m' v, Inv m' → cQt m m' → nxV m' i w v → Q v m') : jK d zX10_next [jO 10 0, jI i, jI w] m Q := by
  refine jK_deep (show 19 + 1 ≤ d by omega) (gX10_next 19 i w m Q ⟨fun g => hB (by omega), fun g => ⟨fun g2 => ⟨fun g3 => hB (by omega), fun g3 => ⟨fun g4 => ?_, fun g4 => hB (by omega)⟩⟩, fun g2 => hB (by omega)⟩⟩)
  have gg : (0 ≤ i ∧ i ≤ 11) ∧ -1 ≤ w ∧ w ≤ 7 := by omega
  refine r_next h (fun m1 h1 p1 pl1 nx1 q1 => ?_) (by omega)
  obtain ⟨T, t1, t2, t3⟩ := nx1
  rw [t2]
  refine ⟨fun g5 => ⟨fun w0 => ⟨by omega, ?_⟩, fun w0 => ?_⟩, fun g5 => ?_⟩
  · refine hQ gg m1 _ h1 q1 ⟨T, t1, ?_⟩
    rw [if_pos g5, if_pos w0]
    exact (t3 i (by omega) g5).1
  · rw [w32_id (z := i * 8) (by omega) (by omega), w32_id (by omega) (by omega), show i * 8 + w = 8 * i + w by omega]
    refine ⟨by omega, hQ gg m1 _ h1 q1 ⟨T, t1, ?_⟩⟩
    rw [if_pos g5, if_neg w0]
    exact (t3 i (by omega) g5).2 w (by omega) (by omega)
  · refine hQ gg m1 _ h1 q1 ⟨T, t1, ?_⟩
    rw [if_neg g5]
theorem q_lists {d : Nat} {m m1 : jM} {Q : Int → jM → Prop} (h : Inv m) (h1 : Inv m1) (q1 : rQt m m1) (al : alk (rO (m1 128)) (rB (m1 128)) (rC (m1 104)) (iO m) (rBu m) (rC (m 104))) (hd : 12 ≤ d) (hQ : ∀ (m' : jM) (T : List (List Int)), (∀ q, q ≠ 103 → q ≠ 129 → q ≠ 130 → q ≠ 131 → q ≠ 133 → q ≠ 134 → m' q = m1 q) → rQt m m' → Top (tot (rBu m) 8) (mts (iO m) (rC (m 104)) 8 0) T → rSt m' (rB (m1 128)) T → (∀ l ∈ T, tot (rB (m1 128)) 8 l = tot (rBu m) 8 l) → Q 0 m') : jK d zX11_lists [jO 11 103] m1 Q := by
  refine jK_deep (show 0 + 12 ≤ d by omega) (s_lists (alk_B (alk_s al) (Inv_B h)) (fun m2 T f2 e2 r2 t2 => ?_))
  have q2 : rQt m m2 := rQt_t q1 ⟨fun q a b c => f2 q a (by omega) (by omega) (by omega) (by omega) (by omega), fun j hj => e2 j (by omega)⟩
  exact hQ m2 T f2 q2 (alk_top al t2) r2 (fun l hl => tot_congr al.2.2 8 (Nat.le_refl 8) 0 l (t2.2.1 l hl))
theorem q_next {d : Nat} {i w : Int} {m : jM} {Q : Int → jM → Prop} (h : Inv m) (hd : 330 ≤ d) (hB : ¬ ((0 ≤ i ∧ i ≤ 11) ∧ -1 ≤ w ∧ w ≤ 7) → Q (-4611686018427387904) m) (hQ : ((0 ≤ i ∧ i ≤ 11) ∧ -1 ≤ w ∧ w ≤ 7) → ∀ m' v, rQt m m' → nxV m i w v → Q v m') : jK d zX11_next_ [jO 11 103, jI i, jI w] m Q := by
  refine jK_deep (show 329 + 1 ≤ d by omega) (gX11_next_ 329 i w m Q (s_in ⟨fun g => ?_, fun g => s_in ⟨fun g2 => ?_, fun g2 => ?_⟩⟩))
  · rw [bI_0] at g; exact hB (fun x => g x.1)
  · rw [bI_0] at g2; exact hB (fun x => g2 x.2)
  · rw [bI_0, Classical.not_not] at g g2
    refine q_costs h (by omega) (fun m1 h1 q1 al _ => q_lists h h1 q1 al (by omega) (fun m2 T f2 q2 t2 r2 et => ?_))
    rw [r2.1]
    refine ⟨fun g5 => ⟨fun w0 => ⟨by omega, ?_⟩, fun w0 => ?_⟩, fun g5 => ?_⟩
    · refine hQ ⟨g, g2⟩ m2 _ q2 ⟨T, t2, ?_⟩
      rw [if_pos g5, if_pos w0, (r2.2 i g.1 g5).1]
      exact et _ (gtD_mem g.1 g5)
    · rw [w32_id (z := 8 * i) (by omega) (by omega), w32_id (by omega) (by omega)]
      refine ⟨by omega, hQ ⟨g, g2⟩ m2 _ q2 ⟨T, t2, ?_⟩⟩
      rw [if_pos g5, if_neg w0, (r2.2 i g.1 g5).2 w (by omega) (by omega)]
      rfl
    · refine hQ ⟨g, g2⟩ m2 _ q2 ⟨T, t2, ?_⟩
      rw [if_neg g5]

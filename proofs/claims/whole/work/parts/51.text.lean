/-! places of the parser don't go back -/
theorem tk_ge (B : Int → Int) (p : Int) : p ≤ (tk B p).2.2 := by
  have h1 : p ≤ lts B p := run_ge p
  have h2 : p ≤ dgs B p := run_ge p
  unfold tk
  repeat' split
  all_goals
    dsimp only
    omega
theorem nx_ge (B : Int → Int) (p : Int) : p ≤ nx B p := Int.le_trans (tk_ge B p) (run_ge _)
def pGe (e : Int) (r : pR) : Prop := e ≤ r.2.2.1
theorem gB {e : Int} {r : pR} {K : Int → pS → pR} (h1 : pGe e r) (h2 : ∀ k (s : pS), e ≤ s.1 → pGe e (K k s)) : pGe e (pB r K) := by
  unfold pB
  split
  · exact h2 _ _ h1
  · exact h1
theorem gF {e : Int} {s : pS} (h : e ≤ s.1) : pGe e (pF s) := h
theorem gN {B : Int → Int} {e : Int} {s : pS} {op num : Int} {K : Int → pS → pR} (hs : e ≤ s.1) (h : ∀ k (s : pS), e ≤ s.1 → pGe e (K k s)) : pGe e (pNew B s op num K) := by
  unfold pNew
  split
  · exact h _ _ (Int.le_trans hs (nx_ge B s.1))
  · exact gF hs
theorem gTk {B : Int → Int} {e : Int} {s : pS} {x : Int} {K : pS → pR} (hs : e ≤ s.1) (h : ∀ (s : pS), e ≤ s.1 → pGe e (K s)) : pGe e (pTk B s x K) := by
  unfold pTk
  split
  · exact h _ (Int.le_trans hs (nx_ge B s.1))
  · exact gF hs
theorem gOp {B : Int → Int} {e : Int} {s : pS} {K : pS → pR} (hs : e ≤ s.1) (h : ∀ (s : pS), e ≤ s.1 → pGe e (K s)) : pGe e (pOp B s K) := by
  unfold pOp
  split
  · exact h _ (Int.le_trans hs (nx_ge B s.1))
  · exact gF hs
theorem pP_p (B : Int → Int) (e : Int) (f : Nat) : ∀ (g a : Int) (s : pS), e ≤ s.1 → pGe e (pP B f g a s) := by
  induction f with
  | zero => intro g a s hs; exact hs
  | succ f ih =>
    intro g a s hs
    have re : ∀ (w : Int) (g1 g2 : Int), pGe e (pRe B w (pP B f g1 0) (pP B f g2) a s) := by
      intro w g1 g2
      have two : ∀ op : Int, pGe e (pNew B s op 0 (fun k s => pB (pP B f g1 0 (pU s 4 k a)) (fun r s => pP B f g2 k (pU s 5 k r)))) := fun op => gN hs (fun k s hs => gB (ih _ _ _ hs) (fun r s hs => ih _ _ _ hs))
      unfold pRe
      split
      · split
        · exact two 3
        split
        · exact two 4
        · exact hs
      · split
        · exact two 5
        · exact hs
    show pGe e (if g = 0 then pEx B (pP B f 0 0) (pP B f 1 0) s
      else if g = 1 then pB (pP B f 3 0 s) (pP B f 2)
      else if g = 2 then pRe B 0 (pP B f 3 0) (pP B f 2) a s
      else if g = 3 then pB (pP B f 5 0 s) (pP B f 4)
      else if g = 4 then pRe B 1 (pP B f 5 0) (pP B f 4) a s
      else pFa B (pP B f 0 0) (pP B f 5 0) s)
    split
    · refine gB (ih _ _ _ hs) (fun l s hs => ?_)
      split
      · exact gN hs (fun k s hs => gB (ih _ _ _ hs) (fun r s hs => gTk hs (fun s hs => gB (ih _ _ _ hs) (fun t s hs => gTk hs (fun s hs => gB (ih _ _ _ hs) (fun e s hs => hs))))))
      · exact hs
    split
    · exact gB (ih _ _ _ hs) (fun k s hs => ih _ _ _ hs)
    split
    · exact re 0 3 2
    split
    · exact gB (ih _ _ _ hs) (fun k s hs => ih _ _ _ hs)
    split
    · exact re 1 5 4
    unfold pFa
    have leaf : ∀ op num, pGe e (pNew B s op num (fun k s => (2, k, s))) := fun op num => gN hs (fun k s hs => hs)
    split
    · exact leaf _ _
    split
    · exact leaf _ _
    split
    · exact leaf _ _
    split
    · refine gN hs (fun k s hs => ?_)
      unfold pTwo
      split
      · exact gOp hs (fun s hs => gB (ih _ _ _ hs) (fun l s hs => gTk hs (fun s hs => gB (ih _ _ _ hs) (fun r s hs => gTk hs (fun s hs => hs)))))
      · exact gF hs
    split
    · exact gN hs (fun k s hs => gB (ih _ _ _ hs) (fun l s hs => hs))
    split
    · exact gOp hs (fun s hs => gB (ih _ _ _ hs) (fun v s hs => gTk hs (fun s hs => hs)))
    split
    · split
      · exact gOp hs (fun s1 hs1 => gB (ih _ _ _ hs1) (fun v s2 hs2 => gTk hs2 (fun s3 hs3 => hs3)))
      · exact gF hs
    · exact gF hs
theorem pAll_p (B : Int → Int) (R0 : jM) : 0 ≤ (pAll B R0).2.2.1 := pP_p B 0 180 0 0 _ (show 0 ≤ skp B 0 from run_ge 0)
/-! text -/
/-- a text is refused: the tape is empty, all else is as it was -/
theorem Inv_tx {m m' : jM} (h : Inv m) (f : ∀ q, q ≠ 45 → ¬ (m 45 2 ≤ q ∧ q ≤ m 45 2 + 3) → q ≠ 6 → q ≠ 103 → ¬ (119 ≤ q ∧ q ≤ 126) → m' q = m q) (h2 : m' 45 2 = m 45 2) (h1 : m' 45 1 = 0) (h16 : m' 103 16 = 0) (h104 : ∀ j, j = 50 ∨ j = 68 → m' 103 j = m 103 j) : Inv m' := by
  obtain ⟨a1, a2, a3, a4, ⟨rk, a5⟩, a6, a7, a8, a9, a10, a11⟩ := h
  have hD := a6.2.1
  unfold rcl at hD
  have g : ∀ q, q ≤ 5 ∨ (23 ≤ q ∧ q ≤ 44) ∨ (51 ≤ q ∧ q ≤ 102) ∨ (104 ≤ q ∧ q ≤ 118) ∨ 127 ≤ q → m' q = m q := fun q hq => f q (by omega) (by omega) (by omega) (by omega) (by omega)
  refine ⟨by rw [g 1 (by omega), g 104 (by omega)]; exact a1, by rw [g 2 (by omega), g 105 (by omega)]; exact a2, by rw [g 3 (by omega), g 106 (by omega)]; exact a3, by rw [g 4 (by omega), g 107 (by omega)]; exact a4, ⟨rk, ?_⟩, iPr_fr a6 (g 5 (by omega)) h2, ?_,
    iRo_fr a8 (h104 50 (by omega)) (fun q h => g q (by omega)), iIm_fr a9 (by rw [g 0 (by omega)]) (h104 68 (by omega)) (fun q h => g q (by omega)), iSh_fr a10 (fun q h => g q (by omega)), iCa_fr a11 (fun j a b => by rw [g 0 (by omega)]) (fun q h => g q (by omega))⟩
  · rw [g 5 (by omega), rG_q (fun q a b => g q (by omega)), g 110 (by omega)]
    refine rul_fr (fun r e r1 r2 e1 e2 => ?_) a5
    have c := a6.1 r r1 r2
    have ne := a6.2.2.1 r r1 r2
    unfold rcl at c
    exact f _ (by omega) (by omega) (by omega) (by omega) (by omega)
  · unfold iTa
    rw [h1, h16, g 118 (by omega), f 46 (by omega) (by omega) (by omega) (by omega) (by omega)]
    exact ⟨rfl, by omega, fun i i2 => ⟨(a7.2.2 i (by have := a7.2.1; omega)).1, fun w => by omega⟩⟩
theorem st_text {m : jM} (h : Inv m) (x : Int) : stp zX10_text zX11_text [jI x] m := by
  refine gX10_text 899 x m _ (s_isRule ⟨fun g => ?_, fun g => ?_⟩)
  · exact ⟨fun _ _ => rfl, gX11_text 899 x m _ (s_in ⟨fun _ => ⟨rfl, h, fun _ _ => rfl⟩, fun g2 => absurd g g2⟩)⟩
  have gi := g
  rw [bI_0, Classical.not_not] at g
  obtain ⟨rk0, hk0, hr0⟩ := h.2.2.2.2.1
  have hpr := h.2.2.2.2.2.1
  obtain ⟨t1, t2, t3⟩ := h.2.2.2.2.2.2.1
  have hnm := Inv_nm h
  generalize hD : m 45 2 = D at *
  generalize hL : m 45 1 = L at *
  generalize hBB : bOf (m 46) L = B
  have hDc := hpr.2.1
  have hDn := hpr.2.2.1
  rw [hD] at hDc hDn
  unfold rcl at hDc
  have hTc : cTx B L D m := ⟨hBB, hL, hD, t2, fun i i1 i2 => (t3 i i2).2 i1, by omega⟩
  have hTr : ∀ m1 : jM, m1 118 = m 118 → m1 103 16 = m 103 16 → rTx B L m1 := fun m1 e1 e2 => by
    refine ⟨?_, by rw [e2]; exact t1, t2, fun i i1 i2 => by rw [e1, (t3 i i2).1]; exact (t3 i i2).2 i1⟩
    rw [e1, ← hBB]
    funext i
    unfold bOf
    by_cases hi : i < L
    · rw [if_pos hi, if_pos hi]; exact (t3 i hi).1
    · rw [if_neg hi, if_neg hi]
  generalize hR0 : (fun f k => m (117 + f) k : jM) = R0
  have eR0 : ∀ f k, R0 f k = m (117 + f) k := fun f k => by rw [← hR0]
  have pge := pAll_p B R0
  have paw := pAll_w B R0
  -- the reference refuses, where the class does
  have cell : ∀ q : Int, 0 ≤ q → q < 4 → rcl (m 5 q) ∧ m 5 q ≠ D := fun q q1 q2 => ⟨hpr.1 q q1 q2, hDn q q1 q2⟩
  refine s_parse (d := 899) hTc R0 (by omega) (fun gd m2 cf e0 es cx => ?_) (fun gd m2 cf => ?_)
  case refine_2 =>
    refine ⟨fun w => absurd w (by omega), fun _ => ?_⟩
    generalize hm1 : jUp m2 45 1 0 = m1
    have f1 : ∀ q, q ≠ 45 → ¬ (D ≤ q ∧ q ≤ D + 3) → m1 q = m q := fun q a b => by rw [← hm1, up_ne a]; exact cf.1 q a b
    have e452 : m1 45 2 = D := by rw [← hm1, up_oth (by omega), cf.2 2 (by omega)]; exact hD
    have e451 : m1 45 1 = 0 := by rw [← hm1, up_same]
    refine ⟨fun q hq => f1 q (by omega) (by omega), jK_deep (show 899 + 1 ≤ 900 by omega) (s_textR2 R0 (fun f k a b => by rw [eR0, f1 _ (by omega) (by omega)]) (hTr m1 (f1 118 (by omega) (by omega)) (by rw [f1 103 (by omega) (by omega)])) ⟨g.1, g.2⟩ (by omega) (fun gd2 => absurd gd2 gd) (fun _ m3 fx => ⟨rfl, ?_, fun q hq => by rw [fx.1 q (by omega) (by omega)]; exact f1 q (by omega) (by omega)⟩))⟩
    refine Inv_tx h (fun q a b c d e => ?_) (by rw [fx.1 45 (by omega) (by omega), e452, hD]) (by rw [fx.1 45 (by omega) (by omega), e451]) fx.2.2 (fun j hj => by rw [fx.2.1 j (by omega), f1 103 (by omega) (by omega)])
    rw [hD] at b
    rw [fx.1 q d (by omega)]; exact f1 q a b
  case refine_1 =>
    refine ⟨fun _ => ?_, fun w => absurd rfl w⟩
    generalize hn : (pAll B R0).2.2.2.1 = n at *
    generalize hroot : (pAll B R0).2.1 = root at *
    generalize hR : (pAll B R0).2.2.2.2.2 = R at *
    have n24 : 1 ≤ n ∧ n ≤ 24 := by
      rcases paw with w | w
      · have := gd.1; omega
      · exact w.2.2
    have ux : uX R 0 n root := by
      have := pP_t B 180 0 0 0 (skp B 0, 0, 0, R0) (Or.inl ⟨by omega, by omega, rfl⟩) gd.1
      rw [← hR, ← hn, ← hroot]
      exact this
    have u24 := ux 24 (by omega)
    have c24 := cx 24 (by omega)
    have lf : ∀ j, 0 ≤ j → j < n → lfOk R j := cT_lf 24 (Nat.le_refl 24) u24 c24
    have arg := cT_arg 24 c24
    have cnt : ∀ q, cnr (fun i => decide (m2 (D + 1) i = 4 ∧ m2 (D + 2) i = q)) 0 (m2 D 1) = cnN R n q := fun q => cT_cnt q 24 (Nat.le_refl 24) u24 c24
    generalize hnm' : nmT (m 110) x (cnN R n) = nm'
    generalize hP' : paT (m 108) x n = P'
    have enm : ∀ i, nm' i = if 4 * x ≤ i ∧ i < 4 * x + 4 then cnN R n (i - 4 * x) else m 110 i := fun i => by rw [← hnm']; rfl
    have ePa : ∀ q, P' q = if q = x then n else m 108 q := fun q => by rw [← hP']; rfl
    have nn : nmN nm' := fun r q r1 r2 q1 q2 => by
      rw [enm]
      split
      · exact cnr_nn
      · exact hnm r q r1 r2 q1 q2
    have pb : ∀ q : Int, 0 ≤ q → q < 4 → 0 ≤ P' q ∧ P' q ≤ 24 := fun q q1 q2 => by
      rw [ePa]
      split
      · omega
      · exact (hr0 q q1 q2).2.1
    have e452 : m2 45 2 = D := by rw [cf.2 2 (by omega)]; exact hD
    rw [up_oth (show ¬ (2 : Int) = 1 by omega), e452, up_ne (show ¬ (5 : Int) = 45 by omega), cf.1 5 (by omega) (by omega)]
    generalize hm3 : jUp (jUp m2 45 1 0) 5 x D = m3
    have f3 : ∀ q, q ≠ 5 → q ≠ 45 → m3 q = m2 q := fun q a b => by rw [← hm3, up_ne a, up_ne b]
    have g3 : ∀ q, q ≠ 5 → q ≠ 45 → ¬ (D ≤ q ∧ q ≤ D + 3) → m3 q = m q := fun q a b c => by rw [f3 q a b]; exact cf.1 q b c
    have e35 : ∀ y, m3 5 y = if y = x then D else m 5 y := fun y => by rw [← hm3, up_eq, up_ne (by omega), cf.1 5 (by omega) (by omega)]
    have e345 : ∀ y, m3 45 y = if y = 1 then 0 else m2 45 y := fun y => by rw [← hm3, up_ne (by omega), up_eq]
    have rN : ∀ q : Int, 0 ≤ q → q < 4 → ruN nm' m3 (m3 5 q) q ∧ m3 (m3 5 q) 0 = P' q ∧ (0 ≤ P' q ∧ P' q ≤ 24) ∧ 7 ≤ m3 5 q := by
      intro q q1 q2
      refine ⟨?_, ?_, pb q q1 q2, ?_⟩ <;> rw [e35]
      · by_cases hq : q = x
        · rw [if_pos hq, hq]
          unfold ruN
          rw [f3 D (by omega) (by omega), f3 (D + 1) (by omega) (by omega), f3 (D + 2) (by omega) (by omega)]
          refine ⟨by omega, fun i i1 i2 => arg i i1 i2, fun y y1 y2 => ?_⟩
          rw [enm, if_pos (by omega), cnt, show 4 * x + y - 4 * x = y by omega]
        · rw [if_neg hq]
          obtain ⟨c1, c2⟩ := cell q q1 q2
          unfold rcl at c1
          have old := (hr0 q q1 q2).2.2.2.1
          have := ruN_c (m' := m3) (g3 _ (by omega) (by omega) (by omega)) (g3 _ (by omega) (by omega) (by omega)) (g3 _ (by omega) (by omega) (by omega)) old
          refine ⟨this.1, this.2.1, fun y y1 y2 => ?_⟩
          rw [enm, if_neg (by omega)]
          exact this.2.2 y y1 y2
      · rw [ePa]
        by_cases hq : q = x
        · rw [if_pos hq, if_pos hq, f3 D (by omega) (by omega)]; exact e0
        · rw [if_neg hq, if_neg hq]
          obtain ⟨c1, c2⟩ := cell q q1 q2
          unfold rcl at c1
          rw [g3 _ (by omega) (by omega) (by omega)]
          exact (hr0 q q1 q2).1
      · by_cases hq : q = x
        · rw [if_pos hq]; omega
        · rw [if_neg hq]
          have := (cell q q1 q2).1
          unfold rcl at this
          omega
    -- a refusal, by both
    have refu : ∀ (v : Int) (m4 : jM), (∀ q, q ≠ 6 → m4 q = m3 q) → (∀ m5 : jM, rTx B L m5 → m5 110 = m 110 → m5 108 = m 108 → (∀ m6 : jM, rFx m5 m6 → m6 103 24 = n → (∀ f k, 2 ≤ f → f ≤ 8 → m6 (117 + f) k = R f k) → (∀ m7 : jM, (∀ q, q ≠ 126 → m7 q = m6 q) → Inv m7 ∧ ∀ q, q < 0 → m7 q = m q) → aX11_text_77 899 x root 0 m6 (fun v' m2 => v = v' ∧ Inv m2 ∧ ∀ q, q < 0 → m2 q = m q))) → (∀ q, q < 0 → jUp m4 5 x (m 5 x) q = m q) ∧ jK 900 zX11_text [jO 11 103, jI x] (jUp m4 5 x (m 5 x)) (fun v' m2 => v = v' ∧ Inv m2 ∧ ∀ q, q < 0 → m2 q = m q) := by
      intro v m4 f4 cont
      generalize hm5 : jUp m4 5 x (m 5 x) = m5
      have e5 : m5 5 = m 5 := by
        rw [← hm5]
        funext y
        rw [up_eq, f4 5 (by omega), e35]
        by_cases hy : y = x
        · rw [if_pos hy, hy]
        · rw [if_neg hy, if_neg hy]
      have f5 : ∀ q, q ≠ 6 → q ≠ 45 → ¬ (D ≤ q ∧ q ≤ D + 3) → m5 q = m q := fun q a b c => by
        by_cases h5 : q = 5
        · rw [h5]; exact e5
        · rw [← hm5, up_ne h5, f4 q a]; exact g3 q h5 b c
      have e545 : ∀ y, m5 45 y = if y = 1 then 0 else m2 45 y := fun y => by rw [← hm5, up_ne (by omega), f4 45 (by omega)]; exact e345 y
      refine ⟨fun q hq => f5 q (by omega) (by omega) (by omega), jK_deep (show 899 + 1 ≤ 900 by omega) (s_textR2 R0 (fun f k a b => by rw [eR0, f5 _ (by omega) (by omega) (by omega)]) (hTr m5 (f5 118 (by omega) (by omega) (by omega)) (by rw [f5 103 (by omega) (by omega) (by omega)])) ⟨g.1, g.2⟩ (by omega) (fun _ m6 fx e24 er => ?_) (fun gd2 => absurd gd gd2))⟩
      rw [hroot]
      refine cont m5 (hTr m5 (f5 118 (by omega) (by omega) (by omega)) (by rw [f5 103 (by omega) (by omega) (by omega)])) (f5 110 (by omega) (by omega) (by omega)) (f5 108 (by omega) (by omega) (by omega)) m6 fx (by rw [e24]; exact hn) (fun f k a b => by rw [er f k a b, hR]) (fun m7 f7 => ⟨Inv_tx h (fun q a b c d e => ?_) ?_ ?_ ?_ (fun j hj => ?_), fun q hq => ?_⟩)
      · rw [hD] at b
        rw [f7 q (by omega), fx.1 q d (by omega)]; exact f5 q c a b
      · rw [f7 45 (by omega), fx.1 45 (by omega) (by omega), e545, if_neg (by omega), e452, hD]
      · rw [f7 45 (by omega), fx.1 45 (by omega) (by omega), e545, if_pos rfl]
      · rw [f7 103 (by omega)]; exact fx.2.2
      · rw [f7 103 (by omega), fx.2.1 j (by omega), f5 103 (by omega) (by omega) (by omega)]
      · rw [f7 q (by omega), fx.1 q (by omega) (by omega)]; exact f5 q (by omega) (by omega) (by omega)
    refine ⟨⟨g.1, by omega⟩, ⟨g.1, by omega⟩, jK_deep (show 0 + 3 ≤ 899 by omega) (s_refusalOf (P := P') (nm := nm') ⟨g.1, by omega⟩ nn rN (fun ring => ⟨fun w => absurd w (by omega), fun _ => ⟨⟨g.1, by omega⟩, refu (-5) m3 (fun _ _ => rfl) (fun m5 _ e111 e109 m6 fx e24 er fin => ?_)⟩⟩) (fun noring => ?_))⟩
    · have x111 : m6 110 = m 110 := by rw [fx.1 110 (by omega) (by omega)]; exact e111
      have x109 : m6 108 = m 108 := by rw [fx.1 108 (by omega) (by omega)]; exact e109
      refine s_textEnd (n := n) (R := R) ⟨g.1, by omega⟩ (by omega) ⟨e24, n24⟩ er lf (fun _ m7 f7 => ⟨rfl, fin m7 f7⟩) (fun nr => ?_)
      rw [x111, hnm'] at nr
      exact absurd ring nr
    · obtain ⟨rk, hrk⟩ := rank_new (nm := m 110) (nm' := nm') (rk := rk0) (r0 := x) ⟨g.1, by omega⟩ hk0 (fun r q r1 r2 hne q1 q2 => by rw [enm, if_neg (by omega)]) noring
      refine ⟨rk, wtf P' nm' 4, hrk, wt_ex hrk nn, fun hv m4 f4 => ⟨fun w => absurd w (by omega), fun _ => ⟨⟨g.1, by omega⟩, refu (-4) m4 f4 (fun m5 _ e111 e109 m6 fx e24 er fin => ?_)⟩⟩, fun hv m4 f4 => ⟨fun _ => ?_, fun w => absurd rfl w⟩⟩
      · have x111 : m6 110 = m 110 := by rw [fx.1 110 (by omega) (by omega)]; exact e111
        have x109 : m6 108 = m 108 := by rw [fx.1 108 (by omega) (by omega)]; exact e109
        refine s_textEnd (n := n) (R := R) ⟨g.1, by omega⟩ (by omega) ⟨e24, n24⟩ er lf (fun rr => ?_) (fun nr => ?_)
        · rw [x111, hnm'] at rr
          exact absurd rr noring
        · rw [x111, x109, hnm', hP']
          exact ⟨rk, wtf P' nm' 4, hrk, wt_ex hrk nn, nn, pb, fun _ m7 f7 => ⟨rfl, fin m7 f7⟩, fun hv2 => by
            obtain ⟨q, q1, q2, q3⟩ := hv
            exact absurd q3 (hv2 q q1 q2)⟩
      · refine s_changed (fun m5 f5 e5 z5 => ⟨⟨g.1, by omega⟩, ?_⟩)
        have h55 : ∀ y, m5 5 y = if y = x then D else m 5 y := fun y => by rw [f5 5 (by omega), up_ne (by omega), f4 5 (by omega)]; exact e35 y
        have h545 : ∀ y, m5 45 y = if y = 2 then m 5 x else if y = 1 then 0 else m2 45 y := fun y => by
          rw [f5 45 (by omega), up_eq, f4 45 (by omega), e345]
        have gq : ∀ q, q ≠ 0 → q ≠ 6 → q ≠ 45 → m5 q = m3 q := fun q a b c => by rw [f5 q a, up_ne c]; exact f4 q b
        have gm : ∀ q, q ≠ 0 → q ≠ 5 → q ≠ 6 → q ≠ 45 → ¬ (D ≤ q ∧ q ≤ D + 3) → m5 q = m q := fun q a b c d e => by rw [gq q a c d]; exact g3 q b d e
        have gD : ∀ e : Int, 0 ≤ e → e ≤ 3 → m5 (D + e) = m2 (D + e) := fun e e1 e2 => by rw [gq _ (by omega) (by omega) (by omega)]; exact f3 _ (by omega) (by omega)
        have gD0 : m5 D = m2 D := by have := gD 0 (by omega) (by omega); rw [Int.add_zero] at this; exact this
        rw [h55, if_pos rfl, gD0, e0]
        refine ⟨fun q hq => gm q (by omega) (by omega) (by omega) (by omega) (by omega), jK_deep (show 899 + 1 ≤ 900 by omega) (s_textR2 R0 (fun f k a b => by rw [eR0, gm _ (by omega) (by omega) (by omega) (by omega) (by omega)]) (hTr m5 (gm 118 (by omega) (by omega) (by omega) (by omega) (by omega)) (by rw [gm 103 (by omega) (by omega) (by omega) (by omega) (by omega)])) ⟨g.1, g.2⟩ (by omega) (fun _ m6 fx e24 er => ?_) (fun gd2 => absurd gd gd2))⟩
        rw [hroot]
        have x111 : m6 110 = m 110 := by rw [fx.1 110 (by omega) (by omega)]; exact gm 110 (by omega) (by omega) (by omega) (by omega) (by omega)
        have x109 : m6 108 = m 108 := by rw [fx.1 108 (by omega) (by omega)]; exact gm 108 (by omega) (by omega) (by omega) (by omega) (by omega)
        refine s_textEnd (n := n) (R := R) ⟨g.1, by omega⟩ (by omega) ⟨by rw [e24]; exact hn, n24⟩ (fun f k a b => by rw [er f k a b, hR]) lf (fun rr => ?_) (fun nr => ?_)
        · rw [x111, hnm'] at rr
          exact absurd rr noring
        rw [x111, x109, hnm', hP']
        refine ⟨rk, wtf P' nm' 4, hrk, wt_ex hrk nn, nn, pb, fun hv2 => ?_, fun _ m7 f7 e109 e110 e111 ef => ⟨rfl, ?_, fun q hq => ?_⟩⟩
        · obtain ⟨q, q1, q2, q3⟩ := hv2
          exact absurd q3 (hv q q1 q2)
        · -- the new state
          have all : ∀ q, ¬ (108 ≤ q ∧ q ≤ 117) → q ≠ 126 → q ≠ 103 → ¬ (119 ≤ q ∧ q ≤ 125) → m7 q = m5 q := fun q a b c d => by rw [f7 q a b, fx.1 q c d]
          have a5 : m7 5 = m5 5 := all 5 (by omega) (by omega) (by omega) (by omega)
          have a45 : m7 45 = m5 45 := all 45 (by omega) (by omega) (by omega) (by omega)
          have rest : ∀ q, q ≠ 0 → ¬ (5 ≤ q ∧ q ≤ 22) → ¬ (45 ≤ q ∧ q ≤ 50) → ¬ (108 ≤ q ∧ q ≤ 126) → q ≠ 103 → m7 q = m q := fun q a b c d e => by rw [all q (by omega) (by omega) (by omega) (by omega)]; exact gm q a (by omega) (by omega) (by omega) (by omega)
          refine Inv_ru h rest ?_ (fun j j1 j2 => ?_) (fun j hj => ?_) ⟨rk, ?_⟩ ⟨fun q q1 q2 => ?_, ?_, fun q q1 q2 => ?_, fun q q' q1 q2 p1 p2 hne => ?_⟩ ?_
          · rw [all 0 (by omega) (by omega) (by omega) (by omega), e5 2 (by omega), up_ne (by omega), f4 0 (by omega), g3 0 (by omega) (by omega) (by omega)]
          · rw [all 0 (by omega) (by omega) (by omega) (by omega)]; exact z5 j j1 j2
          · rw [f7 103 (by omega) (by omega), fx.2.1 j (by omega), gm 103 (by omega) (by omega) (by omega) (by omega) (by omega)]
          · rw [a5, e111]
            refine ⟨hrk, fun r r1 r2 => ?_⟩
            rw [h55]
            by_cases hr : r = x
            · rw [if_pos hr, hr]
              have d0 : m7 D = m2 D := by rw [all D (by omega) (by omega) (by omega) (by omega)]; exact gD0
              have d1 : m7 (D + 1) = m2 (D + 1) := by rw [all _ (by omega) (by omega) (by omega) (by omega)]; exact gD 1 (by omega) (by omega)
              have d2 : m7 (D + 2) = m2 (D + 2) := by rw [all _ (by omega) (by omega) (by omega) (by omega)]; exact gD 2 (by omega) (by omega)
              have d3 : m7 (D + 3) = m2 (D + 3) := by rw [all _ (by omega) (by omega) (by omega) (by omega)]; exact gD 3 (by omega) (by omega)
              have p0 : rG m7 x 0 0 = n := by show m7 108 x = n; rw [e109, ePa, if_pos rfl]
              have p1 : rG m7 x 1 0 = root := by show m7 109 x = root; rw [e110, if_pos rfl]
              have pf : ∀ f k : Int, 2 ≤ f → f ≤ 8 → 0 ≤ k → k < n → rG m7 x f k = R f k := by
                intro f k a b k1 k2
                have e : rG m7 x f k = m7 (109 + f) (24 * x + k) := by
                  have h7 : f = 2 ∨ f = 3 ∨ f = 4 ∨ f = 5 ∨ f = 6 ∨ f = 7 ∨ f = 8 := by omega
                  rcases h7 with rfl | rfl | rfl | rfl | rfl | rfl | rfl <;> rfl
                rw [e, ef f _ a b, if_pos (by omega), show 24 * x + k - 24 * x = k by omega]
              unfold ru1 ruT ruN
              rw [p0, p1, d0, d1, d2, d3]
              refine ⟨e0, by omega, Or.inr ⟨by omega, cX_c (fun f k a b k1 k2 => pf f k a b k1 k2) (fun _ _ _ => ⟨rfl, rfl, rfl⟩) cx, uX_c (fun f k a b k1 k2 => pf f k a b k1 k2) ux, fun j j1 j2 => ?_⟩, ⟨by omega, fun i i1 i2 => arg i i1 i2, fun q q1 q2 => ?_⟩, fun q q1 q2 => ?_⟩
              · have := lf j j1 j2
                unfold lfOk at this ⊢
                dsimp only
                rw [pf 2 j (by omega) (by omega) j1 j2, pf 3 j (by omega) (by omega) j1 j2]
                exact this
              · rw [enm, if_pos (by omega), cnt, show 4 * x + q - 4 * x = q by omega]
              · rw [enm, if_pos (by omega), show 4 * x + q - 4 * x = q by omega]
                unfold cnN
                refine cnr_c (fun k k1 k2 => ?_)
                rw [pf 2 k (by omega) (by omega) k1 k2, pf 3 k (by omega) (by omega) k1 k2]
            · rw [if_neg hr]
              obtain ⟨c1, c2⟩ := cell r r1 r2
              unfold rcl at c1
              have same : ∀ e : Int, 0 ≤ e → e ≤ 3 → m7 (m 5 r + e) = m (m 5 r + e) := fun e e1 e2 => by rw [all _ (by omega) (by omega) (by omega) (by omega)]; exact gm _ (by omega) (by omega) (by omega) (by omega) (by omega)
              have s0 := same 0 (by omega) (by omega)
              rw [Int.add_zero] at s0
              refine ru1_G (G := rG m) (nm := m 110) (fun f k hf => ?_) (fun q q1 q2 => by rw [enm, if_neg (by omega)]) (ru1_fr s0 (same 1 (by omega) (by omega)) (same 2 (by omega) (by omega)) (same 3 (by omega) (by omega)) (hr0 r r1 r2))
              rcases hf with ⟨hk, hf⟩ | ⟨hf, k1, k2⟩
              · rcases hf with rfl | rfl
                · show m7 108 r = m 108 r; rw [e109, ePa, if_neg hr]
                · show m7 109 r = m 109 r
                  rw [e110, if_neg hr, fx.1 109 (by omega) (by omega), gm 109 (by omega) (by omega) (by omega) (by omega) (by omega)]
              · have go : ∀ F : Int, 111 ≤ F → F ≤ 117 → m7 F (24 * r + k) = m F (24 * r + k) := by
                  intro F a b
                  have := ef (F - 109) (24 * r + k) (by omega) (by omega)
                  rw [show 109 + (F - 109) = F by omega, if_neg (by omega)] at this
                  rw [this, fx.1 F (by omega) (by omega), gm F (by omega) (by omega) (by omega) (by omega) (by omega)]
                have h7 : f = 2 ∨ f = 3 ∨ f = 4 ∨ f = 5 ∨ f = 6 ∨ f = 7 ∨ f = 8 := by omega
                rcases h7 with rfl | rfl | rfl | rfl | rfl | rfl | rfl
                · exact go 111 (by omega) (by omega)
                · exact go 112 (by omega) (by omega)
                · exact go 113 (by omega) (by omega)
                · exact go 114 (by omega) (by omega)
                · exact go 115 (by omega) (by omega)
                · exact go 116 (by omega) (by omega)
                · exact go 117 (by omega) (by omega)
          · rw [a5, h55]
            by_cases hq : q = x
            · rw [if_pos hq]; unfold rcl; omega
            · rw [if_neg hq]; exact hpr.1 q q1 q2
          · rw [a45, h545, if_pos rfl]; exact hpr.1 x g.1 (by omega)
          · rw [a5, a45, h55, h545, if_pos rfl]
            by_cases hq : q = x
            · rw [if_pos hq]; exact (hDn x g.1 (by omega)).symm
            · rw [if_neg hq]; exact hpr.2.2.2 q x q1 q2 g.1 (by omega) hq
          · rw [a5, h55, h55]
            by_cases hq : q = x
            · rw [if_pos hq, if_neg (fun w => hne (by rw [hq, w]))]
              exact (hDn q' p1 p2).symm
            · rw [if_neg hq]
              by_cases hq' : q' = x
              · rw [if_pos hq']; exact hDn q q1 q2
              · rw [if_neg hq']; exact hpr.2.2.2 q q' q1 q2 p1 p2 hne
          · unfold iTa
            have e16 : m7 103 16 = 0 := by rw [f7 103 (by omega) (by omega)]; exact fx.2.2
            rw [a45, h545, if_neg (by omega), if_pos rfl, e16, all 118 (by omega) (by omega) (by omega) (by omega), all 46 (by omega) (by omega) (by omega) (by omega), gm 118 (by omega) (by omega) (by omega) (by omega) (by omega), gm 46 (by omega) (by omega) (by omega) (by omega) (by omega)]
            exact ⟨rfl, by omega, fun i i2 => ⟨(t3 i (by omega)).1, fun w => by omega⟩⟩
        · rw [f7 q (by omega) (by omega), fx.1 q (by omega) (by omega)]; exact gm q (by omega) (by omega) (by omega) (by omega) (by omega)

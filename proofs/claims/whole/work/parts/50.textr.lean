/-! a text parsed by the reference, whatever stood in its rows -/
theorem s_textR2 {B : Int → Int} {L x1 : Int} {m : jM} (R0 : jM) (hR : ∀ f k, 2 ≤ f → f ≤ 8 → R0 f k = m (117 + f) k) (hT : rTx B L m) (hx : 0 ≤ x1 ∧ x1 ≤ 3) {Q : Int → jM → Prop} {d : Nat} (hd : 370 ≤ d)
    (hG : pGood B R0 → ∀ m', rFx m m' → m' 103 24 = (pAll B R0).2.2.2.1 → (∀ f k, 2 ≤ f → f ≤ 8 → m' (117 + f) k = (pAll B R0).2.2.2.2.2 f k) → aX11_text_77 d x1 (pAll B R0).2.1 0 m' Q)
    (hF : ¬ pGood B R0 → ∀ m', rFx m m' → Q (w32 ((-100) - (pAll B R0).2.2.1)) m') : jK (d + 1) zX11_text [jO 11 103, jI x1] m Q := by
  have hT' := hT
  obtain ⟨T1, T2, T3, T4⟩ := hT'
  have hBo : ∀ i, L ≤ i → B i = -1 := fun i hi => by rw [← T1]; exact bOf_out hi
  have sk := skp_le hBo (p := 0) (by omega)
  have w := pAll_w B R0
  refine gX11_text d x1 m Q (jK_deep (show 0 + 1 ≤ d by omega) (s_in ⟨fun g => ?_, fun g => ?_⟩))
  · rw [bI_0] at g
    exact absurd hx g
  generalize hm1 : jUp (jUp (jUp (jUp m 103 17 0) 103 21 0) 103 22 0) 103 24 0 = mm
  have eq : ∀ q, q ≠ 103 → mm q = m q := fun q a => by rw [← hm1, up_ne a, up_ne a, up_ne a, up_ne a]
  have ef : ∀ f, f < 17 ∨ 24 < f → mm 103 f = m 103 f := fun f a => by rw [← hm1, up_oth (by omega), up_oth (by omega), up_oth (by omega), up_oth (by omega)]
  have e17 : mm 103 17 = 0 := by rw [← hm1, up_oth (by omega), up_oth (by omega), up_oth (by omega), up_same]
  have e21 : mm 103 21 = 0 := by rw [← hm1, up_oth (by omega), up_oth (by omega), up_same]
  have e22 : mm 103 22 = 0 := by rw [← hm1, up_oth (by omega), up_same]
  have e24 : mm 103 24 = 0 := by rw [← hm1, up_same]
  have e119 : mm 118 = m 118 := eq 118 (by omega)
  refine jK_deep (show 0 + 4 ≤ d by omega) (s_nextR (n := L) (a := 0) T3 (by omega) (by rw [ef 16 (by omega)]; exact T2) e17 (by rw [e119]; exact T4) (fun m2 hf hr => ?_))
  rw [e119, T1] at hr
  have hs : rPs B L m (skp B 0, 0, 0, R0) m2 := by
    refine ⟨⟨fun a b c => by rw [hf.1 a b]; exact eq a b, fun f hf2 => ?_⟩, hr, sk, ?_, ?_, ?_, ⟨by dsimp only; omega, by dsimp only; omega⟩, ⟨by dsimp only; omega, by dsimp only; omega⟩, fun f k a b => ?_⟩
    · rw [hf.2 f (by omega) (by omega) (by omega) (by omega)]; exact ef f hf2
    · rw [hf.2 22 (by omega) (by omega) (by omega) (by omega)]; exact e22
    · rw [hf.2 24 (by omega) (by omega) (by omega) (by omega)]; exact e24
    · rw [hf.2 21 (by omega) (by omega) (by omega) (by omega)]; exact e21
    · rw [hf.1 _ (by omega), eq _ (by omega)]; exact (hR f k a b).symm
  have frx : ∀ m3, rFm m m3 → rFx m (jUp m3 103 16 0) := fun m3 h => ⟨fun q a b => by rw [up_ne a]; exact h.1 q a b, fun f hf => by rw [up_oth (by omega)]; exact h.2 f (by omega), up_same⟩
  have bad : ∀ v m4, ¬ pGood B R0 → rPf m (pAll B R0).2.2.1 m4 → (jUp m4 103 16 0 103 22 = 0 → aX11_text_77 d x1 v 0 (jUp m4 103 16 0) Q) ∧ (¬ jUp m4 103 16 0 103 22 = 0 → Q (w32 ((-100) - (jUp m4 103 16 0) 103 23)) (jUp m4 103 16 0)) := by
    intro v m4 ng h4
    refine ⟨fun g => ?_, fun g => ?_⟩
    · rw [up_oth (by omega), h4.2.1] at g
      omega
    · rw [up_oth (by omega), h4.2.2]
      exact hF ng _ (frx _ h4.1)
  refine s_parseR hT 180 0 0 _ m2 _ d (by omega) (by omega) hs ⟨?_, fun g m3 h3 => ?_, fun g m3 v h3 => ?_⟩ (by omega)
  · show (pAll B R0).1 ≠ 0
    omega
  · have tok := h3.2.1
    obtain ⟨t19, t17, t0, t1, t2, tt3, t4, t5, tt6⟩ := tok
    refine ⟨fun g0 => ?_, fun g0 => ?_⟩
    · have k0 : (tk B (pAll B R0).2.2.1).1 = 0 := by
        rcases (tk_r B (pAll B R0).2.2.1).1 with e | e | e | e | e | e | e
        · exact e
        · have := (t1 e).1; omega
        · have := (t2 e).1; omega
        · have := (tt3 e).1; omega
        · have := (t4 e).1; omega
        · have := (t5 e).1; omega
        · have := tt6 e; omega
      refine ⟨fun _ => hG ⟨g, k0⟩ _ (frx _ h3.1) ?_ (fun f k a b => ?_), fun w => ?_⟩
      · rw [up_oth (by omega)]; exact h3.2.2.2.2.1
      · rw [up_ne (by omega)]; exact h3.2.2.2.2.2.2.2.2 f k a b
      · rw [up_oth (by omega)] at w
        exact absurd (rPs_0 h3) w
    · exact jK_deep (show 0 + 1 ≤ d by omega) (s_failP h3 (fun m4 h4 => bad _ m4 (fun w => g0 (t0 w.2)) h4))
  · have ng : ¬ pGood B R0 := fun w => by have := w.1; change (pAll B R0).1 = 1 at g; omega
    refine ⟨fun _ => bad v m3 ng h3, fun _ => jK_deep (show 0 + 1 ≤ d by omega) (s_failF h3.2.1 (bad v m3 ng h3))⟩
/-! the reference's text behind the parsing -/
def nmT (nm : Int → Int) (x : Int) (c : Int → Int) : Int → Int := fun i => if 4 * x ≤ i ∧ i < 4 * x + 4 then c (i - 4 * x) else nm i
def paT (P : Int → Int) (x n : Int) : Int → Int := fun q => if q = x then n else P q
def cnN (R : jM) (n q : Int) : Int := cnr (fun j => decide (R 2 j = 2 ∧ R 3 j = q)) 0 n
theorem s_trades {d : Nat} {r : Int} {m : jM} {Q : Int → jM → Prop} (hr : 0 ≤ r ∧ r < 4) (h : ∀ m' : jM, (∀ q, q ≠ 110 → q ≠ 126 → m' q = m q) → (∀ y, m' 110 y = if 4 * r ≤ y ∧ y < 4 * r + 4 then m 126 (y - 4 * r) else m 110 y) → (∀ y, m' 126 y = if 0 ≤ y ∧ y < 4 then m 110 (4 * r + y) else m 126 y) → Q 0 m') : jK (d + 1) zX11_trades [jO 11 103, jI r] m Q := by
  have loop : ∀ (k : Nat) (i : Int) (mm : jM), 0 ≤ i → i + k = 4 → (∀ q, q ≠ 110 → q ≠ 126 → mm q = m q) → (∀ y, mm 110 y = if 4 * r ≤ y ∧ y < 4 * r + i then m 126 (y - 4 * r) else m 110 y) → (∀ y, mm 126 y = if 0 ≤ y ∧ y < i then m 110 (4 * r + y) else m 126 y) → aX11_trades_2 d r i mm Q := by
    intro k
    induction k with
    | zero =>
      intro i mm i0 ik f a b
      refine gX11_trades_2 d r i mm Q ⟨fun q => by omega, fun _ => ?_⟩
      rw [show i = 4 by omega] at a b
      exact h mm f a b
    | succ k ih =>
      intro i mm i0 ik f a b
      have hw : w32 (w32 (4 * r) + i) = 4 * r + i := by rw [w32_id (z := 4 * r) (by omega) (by omega), w32_id (by omega) (by omega)]
      refine gX11_trades_2 d r i mm Q ⟨fun q => ?_, fun q => by omega⟩
      rw [hw, w32_id (z := i + 1) (by omega) (by omega)]
      have e1 : mm 110 (4 * r + i) = m 110 (4 * r + i) := by rw [a, if_neg (by omega)]
      have e2 : mm 126 i = m 126 i := by rw [b, if_neg (by omega)]
      rw [e1, e2]
      refine ⟨by omega, by omega, by omega, by omega, ih (i + 1) _ (by omega) (by omega) (fun q p1 p2 => by rw [up_ne p2, up_ne p1]; exact f q p1 p2) (fun y => ?_) (fun y => ?_)⟩
      · rw [up_ne (by omega), up_eq, a]
        by_cases hy : y = 4 * r + i
        · rw [if_pos hy, if_pos (by omega), show y - 4 * r = i by omega]
        · rw [if_neg hy]
          by_cases hy2 : 4 * r ≤ y ∧ y < 4 * r + i
          · rw [if_pos hy2, if_pos (by omega)]
          · rw [if_neg hy2, if_neg (by omega)]
      · rw [up_eq, up_ne (by omega), b]
        by_cases hy : y = i
        · rw [if_pos hy, if_pos (by omega), hy]
        · rw [if_neg hy]
          by_cases hy2 : 0 ≤ y ∧ y < i
          · rw [if_pos hy2, if_pos (by omega)]
          · rw [if_neg hy2, if_neg (by omega)]
  exact gX11_trades d r m Q (loop 4 0 m (by omega) (by omega) (fun _ _ _ => rfl) (fun y => by rw [if_neg (by omega)]) (fun y => by rw [if_neg (by omega)]))
theorem s_text211 {d : Nat} {r n : Int} {m : jM} {Q : Int → jM → Prop} (hr : 0 ≤ r ∧ r < 4) (hn : m 103 24 = n ∧ 0 ≤ n ∧ n ≤ 24) (h : ∀ m' : jM, (∀ q, ¬ (111 ≤ q ∧ q ≤ 117) → m' q = m q) → (∀ f y : Int, 2 ≤ f → f ≤ 8 → m' (109 + f) y = if 24 * r ≤ y ∧ y < 24 * r + n then m (117 + f) (y - 24 * r) else m (109 + f) y) → Q n m') : aX11_text_211 d r 0 m Q := by
  have loop : ∀ (k : Nat) (i : Int) (mm : jM), 0 ≤ i → i + k = n → (∀ q, ¬ (111 ≤ q ∧ q ≤ 117) → mm q = m q) → (∀ f y : Int, 2 ≤ f → f ≤ 8 → mm (109 + f) y = if 24 * r ≤ y ∧ y < 24 * r + i then m (117 + f) (y - 24 * r) else m (109 + f) y) → aX11_text_211 d r i mm Q := by
    intro k
    induction k with
    | zero =>
      intro i mm i0 ik f a
      have e : mm 103 24 = n := by rw [f 103 (by omega)]; exact hn.1
      refine gX11_text_211 d r i mm Q ⟨fun q => by rw [e] at q; omega, fun _ => ?_⟩
      rw [show i = n by omega] at a
      rw [e]
      exact h mm f a
    | succ k ih =>
      intro i mm i0 ik f a
      have e : mm 103 24 = n := by rw [f 103 (by omega)]; exact hn.1
      have hw : w32 (w32 (24 * r) + i) = 24 * r + i := by rw [w32_id (z := 24 * r) (by omega) (by omega), w32_id (by omega) (by omega)]
      refine gX11_text_211 d r i mm Q ⟨fun q => ?_, fun q => by rw [e] at q; omega⟩
      rw [hw, w32_id (z := i + 1) (by omega) (by omega)]
      have N := ih (i + 1)
      simp (disch := omega) only [up_ne]
      refine ⟨by omega, by omega, by omega, by omega, by omega, by omega, by omega, by omega, by omega, by omega, by omega, by omega, by omega, by omega, ?_⟩
      refine N _ (by omega) (by omega) (fun q hq => ?_) (fun f' y f1 f2 => ?_)
      · rw [up_ne (by omega), up_ne (by omega), up_ne (by omega), up_ne (by omega), up_ne (by omega), up_ne (by omega), up_ne (by omega)]
        exact f q hq
      · have fin : ∀ v w, v = mm (117 + f') i → w = mm (109 + f') y → (if y = 24 * r + i then v else w) = if 24 * r ≤ y ∧ y < 24 * r + (i + 1) then m (117 + f') (y - 24 * r) else m (109 + f') y := by
          intro v w hv hw'
          by_cases hy : y = 24 * r + i
          · rw [if_pos hy, if_pos (by omega), hv, f (117 + f') (by omega), show y - 24 * r = i by omega]
          · rw [if_neg hy, hw', a f' y f1 f2]
            by_cases hy2 : 24 * r ≤ y ∧ y < 24 * r + i
            · rw [if_pos hy2, if_pos (by omega)]
            · rw [if_neg hy2, if_neg (by omega)]
        have h7 : f' = 2 ∨ f' = 3 ∨ f' = 4 ∨ f' = 5 ∨ f' = 6 ∨ f' = 7 ∨ f' = 8 := by omega
        rcases h7 with rfl | rfl | rfl | rfl | rfl | rfl | rfl
        · show jUp (jUp (jUp (jUp (jUp (jUp (jUp mm 111 (24 * r + i) (mm 119 i)) 112 (24 * r + i) (mm 120 i)) 113 (24 * r + i) (mm 121 i)) 114 (24 * r + i) (mm 122 i)) 115 (24 * r + i) (mm 123 i)) 116 (24 * r + i) (mm 124 i)) 117 (24 * r + i) (mm 125 i) 111 y = _
          rw [up_ne (by omega), up_ne (by omega), up_ne (by omega), up_ne (by omega), up_ne (by omega), up_ne (by omega), up_eq]
          exact fin _ _ rfl rfl
        · show jUp (jUp (jUp (jUp (jUp (jUp (jUp mm 111 (24 * r + i) (mm 119 i)) 112 (24 * r + i) (mm 120 i)) 113 (24 * r + i) (mm 121 i)) 114 (24 * r + i) (mm 122 i)) 115 (24 * r + i) (mm 123 i)) 116 (24 * r + i) (mm 124 i)) 117 (24 * r + i) (mm 125 i) 112 y = _
          rw [up_ne (by omega), up_ne (by omega), up_ne (by omega), up_ne (by omega), up_ne (by omega), up_eq, up_ne (by omega)]
          exact fin _ _ rfl rfl
        · show jUp (jUp (jUp (jUp (jUp (jUp (jUp mm 111 (24 * r + i) (mm 119 i)) 112 (24 * r + i) (mm 120 i)) 113 (24 * r + i) (mm 121 i)) 114 (24 * r + i) (mm 122 i)) 115 (24 * r + i) (mm 123 i)) 116 (24 * r + i) (mm 124 i)) 117 (24 * r + i) (mm 125 i) 113 y = _
          rw [up_ne (by omega), up_ne (by omega), up_ne (by omega), up_ne (by omega), up_eq, up_ne (by omega), up_ne (by omega)]
          exact fin _ _ rfl rfl
        · show jUp (jUp (jUp (jUp (jUp (jUp (jUp mm 111 (24 * r + i) (mm 119 i)) 112 (24 * r + i) (mm 120 i)) 113 (24 * r + i) (mm 121 i)) 114 (24 * r + i) (mm 122 i)) 115 (24 * r + i) (mm 123 i)) 116 (24 * r + i) (mm 124 i)) 117 (24 * r + i) (mm 125 i) 114 y = _
          rw [up_ne (by omega), up_ne (by omega), up_ne (by omega), up_eq, up_ne (by omega), up_ne (by omega), up_ne (by omega)]
          exact fin _ _ rfl rfl
        · show jUp (jUp (jUp (jUp (jUp (jUp (jUp mm 111 (24 * r + i) (mm 119 i)) 112 (24 * r + i) (mm 120 i)) 113 (24 * r + i) (mm 121 i)) 114 (24 * r + i) (mm 122 i)) 115 (24 * r + i) (mm 123 i)) 116 (24 * r + i) (mm 124 i)) 117 (24 * r + i) (mm 125 i) 115 y = _
          rw [up_ne (by omega), up_ne (by omega), up_eq, up_ne (by omega), up_ne (by omega), up_ne (by omega), up_ne (by omega)]
          exact fin _ _ rfl rfl
        · show jUp (jUp (jUp (jUp (jUp (jUp (jUp mm 111 (24 * r + i) (mm 119 i)) 112 (24 * r + i) (mm 120 i)) 113 (24 * r + i) (mm 121 i)) 114 (24 * r + i) (mm 122 i)) 115 (24 * r + i) (mm 123 i)) 116 (24 * r + i) (mm 124 i)) 117 (24 * r + i) (mm 125 i) 116 y = _
          rw [up_ne (by omega), up_eq, up_ne (by omega), up_ne (by omega), up_ne (by omega), up_ne (by omega), up_ne (by omega)]
          exact fin _ _ rfl rfl
        · show jUp (jUp (jUp (jUp (jUp (jUp (jUp mm 111 (24 * r + i) (mm 119 i)) 112 (24 * r + i) (mm 120 i)) 113 (24 * r + i) (mm 121 i)) 114 (24 * r + i) (mm 122 i)) 115 (24 * r + i) (mm 123 i)) 116 (24 * r + i) (mm 124 i)) 117 (24 * r + i) (mm 125 i) 117 y = _
          rw [up_eq, up_ne (by omega), up_ne (by omega), up_ne (by omega), up_ne (by omega), up_ne (by omega), up_ne (by omega)]
          exact fin _ _ rfl rfl
  exact loop n.toNat 0 m (by omega) (by omega) (fun _ _ => rfl) (fun f y _ _ => by rw [if_neg (by omega)])
theorem s_textEnd {d : Nat} {r n root : Int} {m R : jM} {Q : Int → jM → Prop} (hr : 0 ≤ r ∧ r < 4) (hd : 20 ≤ d) (hn : m 103 24 = n ∧ 1 ≤ n ∧ n ≤ 24) (hR : ∀ f k : Int, 2 ≤ f → f ≤ 8 → m (117 + f) k = R f k) (lf : ∀ j, 0 ≤ j → j < n → lfOk R j)
    (hring : bt (cto (nmk (nmT (m 110) r (cnN R n))) r) r = true → ∀ m' : jM, (∀ q, q ≠ 126 → m' q = m q) → Q (-5) m')
    (hno : ¬ bt (cto (nmk (nmT (m 110) r (cnN R n))) r) r = true → ∃ rk W, rkO (nmT (m 110) r (cnN R n)) rk ∧ wtW (paT (m 108) r n) (nmT (m 110) r (cnN R n)) W ∧ nmN (nmT (m 110) r (cnN R n)) ∧ (∀ q : Int, 0 ≤ q → q < 4 → 0 ≤ paT (m 108) r n q ∧ paT (m 108) r n q ≤ 24) ∧
      ((∃ q : Int, 0 ≤ q ∧ q < 4 ∧ 60 < W q) → ∀ m' : jM, (∀ q, q ≠ 126 → m' q = m q) → Q (-4) m') ∧
      ((∀ q : Int, 0 ≤ q → q < 4 → ¬ 60 < W q) → ∀ m' : jM, (∀ q, ¬ (108 ≤ q ∧ q ≤ 117) → q ≠ 126 → m' q = m q) → m' 108 = paT (m 108) r n → (∀ y, m' 109 y = if y = r then root else m 109 y) → m' 110 = nmT (m 110) r (cnN R n) → (∀ f y : Int, 2 ≤ f → f ≤ 8 → m' (109 + f) y = if 24 * r ≤ y ∧ y < 24 * r + n then R f (y - 24 * r) else m (109 + f) y) → Q n m')) : aX11_text_77 d r root 0 m Q := by
  have r2 : ∀ k, m 119 k = R 2 k := fun k => hR 2 k (by omega) (by omega)
  have r3 : ∀ k, m 120 k = R 3 k := fun k => hR 3 k (by omega) (by omega)
  -- behind the counting
  have fin : ∀ mA : jM, (∀ q, q ≠ 126 → mA q = m q) → (∀ q : Int, 0 ≤ q → q < 4 → mA 126 q = cnN R n q) → jK d zX11_trades [jO 11 103, jI r] mA (fun v1 m1 => jK d zX11_comesTo [jO 11 103, jI r] m1 (fun v2 m2 => ((iAnd (iShr v2 r) 1) = 1 → jK d zX11_trades [jO 11 103, jI r] m2 (fun v3 m3 => Q (-5) m3)) ∧ (¬ (iAnd (iShr v2 r) 1) = 1 → ((0 : Int) ≤ r ∧ (r : Int) < 4) ∧ ((0 : Int) ≤ r ∧ (r : Int) < 4) ∧ jK d zX11_isHeavy [jO 11 103] (jUp m2 108 r (m2 103 24)) (fun v4 m4 => (v4 = 0 → ((0 : Int) ≤ r ∧ (r : Int) < 4) ∧ aX11_text_211 d r 0 (jUp m4 109 r root) Q) ∧ (¬ v4 = 0 → ((0 : Int) ≤ r ∧ (r : Int) < 4) ∧ jK d zX11_trades [jO 11 103, jI r] (jUp m4 108 r (m2 108 r)) (fun v5 m5 => Q (-4) m5)))))) := by
    intro mA fA eA
    have tr : ∀ {m' : jM} {Q' : Int → jM → Prop}, (∀ m'' : jM, (∀ q, q ≠ 110 → q ≠ 126 → m'' q = m' q) → (∀ y, m'' 110 y = if 4 * r ≤ y ∧ y < 4 * r + 4 then m' 126 (y - 4 * r) else m' 110 y) → (∀ y, m'' 126 y = if 0 ≤ y ∧ y < 4 then m' 110 (4 * r + y) else m' 126 y) → Q' 0 m'') → jK d zX11_trades [jO 11 103, jI r] m' Q' := fun h => jK_deep (show 0 + 1 ≤ d by omega) (s_trades hr h)
    refine tr (fun mB fB b111 b127 => ?_)
    have eB : mB 110 = nmT (m 110) r (cnN R n) := by
      funext y
      rw [b111]
      unfold nmT
      by_cases hy : 4 * r ≤ y ∧ y < 4 * r + 4
      · rw [if_pos hy, if_pos hy, eA _ (by omega) (by omega)]
      · rw [if_neg hy, if_neg hy, fA 110 (by omega)]
    have gB : ∀ q, q ≠ 110 → q ≠ 126 → mB q = m q := fun q a b => by rw [fB q a b]; exact fA q b
    have o127 : ∀ y : Int, 0 ≤ y → y < 4 → mB 126 y = m 110 (4 * r + y) := fun y y1 y2 => by rw [b127, if_pos ⟨y1, y2⟩, fA 110 (by omega)]
    -- back again
    have backC : ∀ mm mC : jM, (∀ q, q ≠ 108 → mm q = mB q) → mm 108 = m 108 → (∀ q, q ≠ 110 → q ≠ 126 → mC q = mm q) → (∀ y, mC 110 y = if 4 * r ≤ y ∧ y < 4 * r + 4 then mm 126 (y - 4 * r) else mm 110 y) → ∀ q, q ≠ 126 → mC q = m q := by
      intro mm mC f1 e109 f2 e111 q hq
      by_cases h1 : q = 110
      · rw [h1]
        funext y
        rw [e111, f1 126 (by omega), f1 110 (by omega)]
        by_cases hy : 4 * r ≤ y ∧ y < 4 * r + 4
        · rw [if_pos hy, o127 _ (by omega) (by omega), show 4 * r + (y - 4 * r) = y by omega]
        · rw [if_neg hy, eB]; unfold nmT; rw [if_neg hy]
      · rw [f2 q h1 hq]
        by_cases h2 : q = 108
        · rw [h2]; exact e109
        · rw [f1 q h2]; exact gB q h1 hq
    refine jK_deep (show 0 + 2 ≤ d by omega) (s_comesTo hr ?_)
    rw [eB, bt_shr (by omega)]
    refine ⟨fun hg => tr (fun mC fC c111 _ => hring hg mC (backC mB mC (fun _ _ => rfl) (gB 108 (by omega) (by omega)) fC c111)), fun hg => ⟨hr, hr, ?_⟩⟩
    obtain ⟨rk, W, k1, k2, k3, k4, k5, k6⟩ := hno hg
    rw [gB 103 (by omega) (by omega), hn.1]
    generalize hmD : jUp mB 108 r n = mD
    have fD : ∀ q, q ≠ 108 → mD q = mB q := fun q a => by rw [← hmD, up_ne a]
    have eD : mD 108 = paT (m 108) r n := by
      funext y
      rw [← hmD, up_eq, gB 108 (by omega) (by omega)]
      rfl
    have eD111 : mD 110 = nmT (m 110) r (cnN R n) := by rw [fD 110 (by omega)]; exact eB
    refine jK_deep (show 0 + 5 ≤ d by omega) (s_isHeavy (P := paT (m 108) r n) (W := W) (rk := rk) (by rw [eD111]; exact k1) (by rw [eD111]; exact k2) (by rw [eD111]; exact k3) (fun q q1 q2 => ⟨by rw [eD], k4 q q1 q2⟩) (fun hh => ⟨fun x => absurd x (by omega), fun _ => ⟨hr, tr (fun mC fC c111 _ => k5 hh mC (backC _ mC (fun q a => by rw [up_ne a]; exact fD q a) ?_ fC c111))⟩⟩) (fun hh => ⟨fun _ => ⟨hr, ?_⟩, fun x => absurd rfl x⟩))
    · funext y
      rw [up_eq, gB 108 (by omega) (by omega)]
      by_cases hy : y = r
      · rw [if_pos hy, hy]
      · rw [if_neg hy, eD]; unfold paT; rw [if_neg hy]
    · refine s_text211 hr (n := n) ⟨by rw [up_ne (by omega), fD 103 (by omega), gB 103 (by omega) (by omega)]; exact hn.1, by omega, hn.2.2⟩ (fun m' f' e' => k6 hh m' (fun q a b => ?_) ?_ (fun y => ?_) ?_ (fun f y f1 f2 => ?_))
      · rw [f' q (by omega), up_ne (by omega), fD q (by omega)]; exact gB q (by omega) b
      · rw [f' 108 (by omega), up_ne (by omega)]; exact eD
      · rw [f' 109 (by omega), up_eq, fD 109 (by omega), gB 109 (by omega) (by omega)]
      · rw [f' 110 (by omega), up_ne (by omega)]; exact eD111
      · rw [e' f y f1 f2, up_ne (by omega), up_ne (by omega), fD _ (by omega), fD _ (by omega), gB _ (by omega) (by omega), gB _ (by omega) (by omega)]
        by_cases hy : 24 * r ≤ y ∧ y < 24 * r + n
        · rw [if_pos hy, if_pos hy, hR f _ f1 f2]
        · rw [if_neg hy, if_neg hy]
  have l97 : ∀ (k : Nat) (i : Int) (mm : jM), 0 ≤ i → i + k = n → (∀ q, q ≠ 126 → mm q = m q) → (∀ q : Int, 0 ≤ q → q < 4 → mm 126 q = cnr (fun j => decide (R 2 j = 2 ∧ R 3 j = q)) 0 i ∧ mm 126 q ≤ i) → aX11_text_97 d r root i mm Q := by
    intro k
    induction k with
    | zero =>
      intro i mm i0 ik f e
      refine gX11_text_97 d r root i mm Q ⟨fun q => by rw [f 103 (by omega), hn.1] at q; omega, fun _ => fin mm f (fun q q1 q2 => ?_)⟩
      rw [(e q q1 q2).1, show i = n by omega]
      rfl
    | succ k ih =>
      intro i mm i0 ik f e
      have l := lf i i0 (by omega)
      refine gX11_text_97 d r root i mm Q ⟨fun q => ⟨by omega, fun g => ?_, fun g => ?_⟩, fun q => by rw [f 103 (by omega), hn.1] at q; omega⟩
      · rw [f 119 (by omega), r2] at g
        have l3 := l.2.2 g
        rw [f 120 (by omega), r3, w32_id (z := i + 1) (by omega) (by omega)]
        have eb := e (R 3 i) l3.1 l3.2
        have nn : 0 ≤ mm 126 (R 3 i) := by rw [eb.1]; exact cnr_nn
        refine ⟨by omega, l3, l3, ih (i + 1) _ (by omega) (by omega) (fun q hq => by rw [up_ne hq]; exact f q hq) (fun q q1 q2 => ?_)⟩
        rw [up_eq, cnr_e i0, w32_id (by omega) (by omega)]
        by_cases hq : q = R 3 i
        · rw [if_pos hq, hq, if_pos (by rw [decide_eq_true_eq]; exact ⟨g, rfl⟩), eb.1]
          exact ⟨rfl, by rw [← eb.1]; omega⟩
        · rw [if_neg hq, if_neg (by rw [decide_eq_true_eq]; exact fun w => hq w.2.symm), Int.add_zero]
          exact ⟨(e q q1 q2).1, by have := (e q q1 q2).2; omega⟩
      · rw [f 119 (by omega), r2] at g
        rw [w32_id (by omega) (by omega)]
        refine ih (i + 1) mm (by omega) (by omega) f (fun q q1 q2 => ?_)
        rw [cnr_e i0, if_neg (by rw [decide_eq_true_eq]; exact fun w => g w.1), Int.add_zero]
        exact ⟨(e q q1 q2).1, by have := (e q q1 q2).2; omega⟩
  have l77 : ∀ (k : Nat) (i : Int) (mm : jM), 0 ≤ i → i + k = 4 → (∀ q, q ≠ 126 → mm q = m q) → (∀ q : Int, 0 ≤ q → q < i → mm 126 q = 0) → aX11_text_77 d r root i mm Q := by
    intro k
    induction k with
    | zero =>
      intro i mm i0 ik f e
      refine gX11_text_77 d r root i mm Q ⟨fun q => by omega, fun _ => ?_⟩
      exact l97 n.toNat 0 mm (by omega) (by omega) f (fun q q1 q2 => by rw [e q q1 (by omega), cnr_0 (by omega)]; omega)
    | succ k ih =>
      intro i mm i0 ik f e
      refine gX11_text_77 d r root i mm Q ⟨fun q => ⟨by omega, ?_⟩, fun q => by omega⟩
      rw [w32_id (by omega) (by omega)]
      refine ih (i + 1) _ (by omega) (by omega) (fun q hq => by rw [up_ne hq]; exact f q hq) (fun q q1 q2 => ?_)
      rw [up_eq]
      by_cases hq : q = i
      · rw [if_pos hq]
      · rw [if_neg hq]; exact e q q1 (by omega)
  exact l77 4 0 m (by omega) (by omega) (fun _ _ => rfl) (fun q q1 q2 => by omega)

/-! the reference's next() -/
def rTk (B : Int → Int) (p : Int) (m : jM) : Prop := m 103 19 = p ∧ ((tk B p).1 ≠ 6 → m 103 17 = (tk B p).2.2) ∧ ((tk B p).1 = 0 → m 103 18 = 0) ∧ ((tk B p).1 = 1 → m 103 18 = 2 ∧ m 103 20 = (tk B p).2.1) ∧ ((tk B p).1 = 2 → m 103 18 = 1 ∧ m 103 20 = 20 + (tk B p).2.1) ∧
  ((tk B p).1 = 3 → m 103 18 = 1 ∧ m 103 20 = 30 + (tk B p).2.1) ∧ ((tk B p).1 = 4 → m 103 18 = 1 ∧ m 103 20 = (tk B p).2.1) ∧ ((tk B p).1 = 5 → m 103 18 = 3 ∧ m 103 20 = (tk B p).2.1) ∧ ((tk B p).1 = 6 → m 103 18 = 4)
theorem rTk_i {B : Int → Int} {p k v e : Int} {m : jM} (htk : tk B p = (k, v, e)) (h : m 103 19 = p ∧ (k ≠ 6 → m 103 17 = e) ∧ (k = 0 → m 103 18 = 0) ∧ (k = 1 → m 103 18 = 2 ∧ m 103 20 = v) ∧ (k = 2 → m 103 18 = 1 ∧ m 103 20 = 20 + v) ∧
  (k = 3 → m 103 18 = 1 ∧ m 103 20 = 30 + v) ∧ (k = 4 → m 103 18 = 1 ∧ m 103 20 = v) ∧ (k = 5 → m 103 18 = 3 ∧ m 103 20 = v) ∧ (k = 6 → m 103 18 = 4)) : rTk B p m := by
  unfold rTk
  rw [htk]
  exact h
def nFr (m m' : jM) : Prop := (∀ q, q ≠ 103 → m' q = m q) ∧ ∀ f, f ≠ 17 → f ≠ 18 → f ≠ 19 → f ≠ 20 → m' 103 f = m 103 f
theorem nFr_up {m m1 : jM} (h : nFr m m1) {f v : Int} (hf : f = 17 ∨ f = 18 ∨ f = 19 ∨ f = 20) : nFr m (jUp m1 103 f v) := ⟨fun q hq => by rw [up_ne hq]; exact h.1 q hq, fun g a b c d => by rw [up_oth (by omega)]; exact h.2 g a b c d⟩
theorem s_isThree {d : Nat} {B : Int → Int} {n p e x1 x2 x3 : Int} {m : jM} {Q : Int → jM → Prop} (hB : bOf (m 118) n = B) (hn : m 103 16 = n) (hn60 : n ≤ 60) (hp : 0 ≤ p) (hp2 : p ≤ 60) (h19 : m 103 19 = p) (h17 : m 103 17 = e)
    (h : Q (bI (e = p + 3 ∧ B p = x1 ∧ B (p + 1) = x2 ∧ B (p + 2) = x3)) m) : jK (d + 2) zX11_isThree [jO 11 103, jI x1, jI x2, jI x3] m Q := by
  have no : ¬ (e = p + 3 ∧ B p = x1 ∧ B (p + 1) = x2 ∧ B (p + 2) = x3) → Q 0 m := fun g => by rw [bI_f g] at h; exact h
  have w3 : w32 (p + 3) = p + 3 := w32_id (by omega) (by omega)
  have w1 : w32 (p + 1) = p + 1 := w32_id (by omega) (by omega)
  have w2 : w32 (p + 2) = p + 2 := w32_id (by omega) (by omega)
  refine gX11_isThree (d + 1) x1 x2 x3 m Q ⟨fun q => ?_, fun q => no (fun g => q (by rw [h17, h19, w3]; exact g.1))⟩
  rw [h17, h19, w3] at q
  rw [h19]
  refine s_byteAt hn hp hn60 ?_
  rw [hB, h19, w1]
  refine ⟨fun q1 => s_byteAt hn (by omega) hn60 ?_, fun q1 => no (fun g => q1 g.2.1)⟩
  rw [hB, h19, w2]
  refine ⟨fun q2 => s_byteAt hn (by omega) hn60 ?_, fun q2 => no (fun g => q2 g.2.2.1)⟩
  rw [hB]
  refine ⟨fun q3 => ?_, fun q3 => no (fun g => q3 g.2.2.2)⟩
  rw [bI_t ⟨q, q1, q2, q3⟩] at h
  exact h
theorem s_wordR {d : Nat} {B : Int → Int} {n p e : Int} {m : jM} {Q : Int → jM → Prop} (hB : bOf (m 118) n = B) (hn : m 103 16 = n) (hn60 : n ≤ 60) (hp : 0 ≤ p) (hp2 : p < 60) (hpe : p < e) (h19 : m 103 19 = p) (h17 : m 103 17 = e) (hl : isLt (B p)) (hE : lts B p = e)
    (h : ∀ w : Int, ((w = -1 ∧ tk B p = (6, 0, e)) ∨ (20 ≤ w ∧ w < 26 ∧ tk B p = (2, w - 20, e)) ∨ (30 ≤ w ∧ w < 34 ∧ tk B p = (3, w - 30, e)) ∨ (8 ≤ w ∧ w < 12 ∧ tk B p = (4, w, e))) → Q w m) : jK (d + 3) zX11_word [jO 11 103] m Q := by
  have hne : ¬ B p = -1 := by unfold isLt at hl; omega
  have base : tk B p = (if e = p + 1 then (if B p ≤ 99 then (2, B p - 97, e) else if 120 ≤ B p then (2, 3 + B p - 120, e) else if 112 ≤ B p ∧ B p ≤ 115 then (3, B p - 112, e) else (6, 0, e))
     else if e = p + 3 then
       (if B p = 109 ∧ B (p + 1) = 105 ∧ B (p + 2) = 110 then (4, 8, e) else if B p = 109 ∧ B (p + 1) = 97 ∧ B (p + 2) = 120 then (4, 9, e) else if B p = 100 ∧ B (p + 1) = 105 ∧ B (p + 2) = 118 then (4, 10, e) else if B p = 109 ∧ B (p + 1) = 111 ∧ B (p + 2) = 100 then (4, 11, e) else (6, 0, e))
     else (6, 0, e)) := by
    unfold tk
    rw [if_neg hne, if_pos hl, hE]
  unfold isLt at hl
  have three : ∀ (x1 x2 x3 : Int) (K : Int → jM → Prop), K (bI (e = p + 3 ∧ B p = x1 ∧ B (p + 1) = x2 ∧ B (p + 2) = x3)) m → jK (d + 2) zX11_isThree [jO 11 103, jI x1, jI x2, jI x3] m K := fun x1 x2 x3 K hK => s_isThree hB hn hn60 hp (by omega) h19 h17 hK
  refine gX11_word (d + 2) m Q (three _ _ _ _ ⟨fun q1 => three _ _ _ _ ⟨fun q2 => three _ _ _ _ ⟨fun q3 => three _ _ _ _ ⟨fun q4 => ⟨fun q5 => ?_, fun q5 => ?_⟩, fun q4 => ?_⟩, fun q3 => ?_⟩, fun q2 => ?_⟩, fun q1 => ?_⟩)
  · rw [bI_0] at q1 q2 q3 q4
    rw [h17, h19, w32_id (by omega) (by omega)] at q5
    rw [if_pos q5] at base
    rw [h19]
    refine jK_deep (show (d + 1) + 1 ≤ d + 2 by omega) (s_byteAt hn hp hn60 ?_)
    rw [hB]
    refine jK_deep (show (d + 1) + 1 ≤ d + 2 by omega) (s_in ⟨fun g1 => jK_deep (show (d + 1) + 1 ≤ d + 2 by omega) (s_in ⟨fun g2 => jK_deep (show (d + 1) + 1 ≤ d + 2 by omega) (s_in ⟨fun g3 => ?_, fun g3 => ?_⟩), fun g2 => ?_⟩), fun g1 => ?_⟩) <;> rw [bI_0] at g1
    · rw [bI_0] at g2 g3
      refine h (-1) (Or.inl ⟨rfl, ?_⟩)
      rw [base, if_neg (by omega), if_neg (by omega), if_neg (by omega)]
    · rw [bI_0] at g2 g3
      rw [w32_id (z := 30 + B p) (by omega) (by omega), w32_id (by omega) (by omega)]
      refine h _ (Or.inr (Or.inr (Or.inl ⟨by omega, by omega, ?_⟩)))
      rw [base, if_neg (by omega), if_neg (by omega), if_pos (by omega), show 30 + B p - 112 - 30 = B p - 112 by omega]
    · rw [bI_0] at g2
      rw [w32_id (z := 23 + B p) (by omega) (by omega), w32_id (by omega) (by omega)]
      refine h _ (Or.inr (Or.inl ⟨by omega, by omega, ?_⟩))
      rw [base, if_neg (by omega), if_pos (by omega), show 23 + B p - 120 - 20 = 3 + B p - 120 by omega]
    · rw [w32_id (z := 20 + B p) (by omega) (by omega), w32_id (by omega) (by omega)]
      refine h _ (Or.inr (Or.inl ⟨by omega, by omega, ?_⟩))
      rw [base, if_pos (by omega), show 20 + B p - 97 - 20 = B p - 97 by omega]
  · rw [bI_0] at q1 q2 q3 q4
    rw [h17, h19, w32_id (by omega) (by omega)] at q5
    rw [if_neg q5] at base
    refine h (-1) (Or.inl ⟨rfl, ?_⟩)
    by_cases e3 : e = p + 3
    · rw [base, if_pos e3, if_neg (fun g => q1 ⟨e3, g⟩), if_neg (fun g => q2 ⟨e3, g⟩), if_neg (fun g => q3 ⟨e3, g⟩), if_neg (fun g => q4 ⟨e3, g⟩)]
    · rw [base, if_neg e3]
  · rw [bI_0] at q1 q2 q3 q4
    rw [Classical.not_not] at q4
    refine h 11 (Or.inr (Or.inr (Or.inr ⟨by omega, by omega, ?_⟩)))
    rw [base, if_neg (by omega), if_pos q4.1, if_neg (fun g => q1 ⟨q4.1, g⟩), if_neg (fun g => q2 ⟨q4.1, g⟩), if_neg (fun g => q3 ⟨q4.1, g⟩), if_pos q4.2]
  · rw [bI_0] at q1 q2 q3
    rw [Classical.not_not] at q3
    refine h 10 (Or.inr (Or.inr (Or.inr ⟨by omega, by omega, ?_⟩)))
    rw [base, if_neg (by omega), if_pos q3.1, if_neg (fun g => q1 ⟨q3.1, g⟩), if_neg (fun g => q2 ⟨q3.1, g⟩), if_pos q3.2]
  · rw [bI_0] at q1 q2
    rw [Classical.not_not] at q2
    refine h 9 (Or.inr (Or.inr (Or.inr ⟨by omega, by omega, ?_⟩)))
    rw [base, if_neg (by omega), if_pos q2.1, if_neg (fun g => q1 ⟨q2.1, g⟩), if_pos q2.2]
  · rw [bI_0] at q1
    rw [Classical.not_not] at q1
    refine h 8 (Or.inr (Or.inr (Or.inr ⟨by omega, by omega, ?_⟩)))
    rw [base, if_neg (by omega), if_pos q1.1, if_pos q1.2]
theorem s_nextR {d : Nat} {a n : Int} {m : jM} {Q : Int → jM → Prop} (hn : 0 ≤ n ∧ n ≤ 60) (ha : 0 ≤ a ∧ a ≤ n) (h16 : m 103 16 = n) (h17 : m 103 17 = a) (hb : ∀ i : Int, 0 ≤ i → i < n → 0 ≤ m 118 i ∧ m 118 i ≤ 255)
    (h : ∀ m', nFr m m' → rTk (bOf (m 118) n) (skp (bOf (m 118) n) a) m' → Q 0 m') : jK (d + 4) zX11_next [jO 11 103] m Q := by
  generalize hB : bOf (m 118) n = B at *
  have hBo : ∀ i, n ≤ i → B i = -1 := fun i hi => by rw [← hB]; exact bOf_out hi
  have hBi : ∀ i, i < n → B i = m 118 i := fun i hi => by rw [← hB]; exact bOf_in hi
  have hBr : ∀ i, 0 ≤ i → B i = -1 → n ≤ i := by
    intro i h0 hi
    apply Decidable.byContradiction
    intro g
    rw [hBi i (by omega)] at hi
    have := hb i h0 (by omega)
    omega
  have hBg : ∀ i, B i ≠ -1 → i < n := fun i hi => by
    apply Decidable.byContradiction
    intro g
    exact hi (hBo i (by omega))
  have byte : ∀ (i : Int) (m1 : jM) (K : Int → jM → Prop), nFr m m1 → 0 ≤ i → K (B i) m1 → jK (d + 3) zX11_byteAt [jO 11 103, jI i] m1 K := by
    intro i m1 K hf hi hK
    refine jK_deep (show (d + 2) + 1 ≤ d + 3 by omega) (s_byteAt (n := n) (by rw [hf.2 16 (by omega) (by omega) (by omega) (by omega)]; exact h16) hi hn.2 ?_)
    rw [hf.1 118 (by omega), hB]
    exact hK
  -- letters
  have L73 : ∀ (K : Int → jM → Prop) (r : Nat) (e p : Int) (m1 : jM), e + r = 61 → p < e → e ≤ n → 0 ≤ p → isLt (B p) → lts B p = runF (fun b => decide (isLt b)) B (61 - e).toNat e → nFr m m1 → m1 103 19 = p → m1 103 17 = e → (∀ m', nFr m m' → rTk B p m' → K 0 m') → aX11_next_73 (d + 3) m1 K := by
    intro K r
    induction r with
    | zero => intro e p m1 he hpe hen; omega
    | succ r ih =>
      intro e p m1 he hpe hen hp0 hl hE hf g19 g17 hK
      refine gX11_next_73 (d + 3) m1 K ?_
      rw [g17]
      refine byte e m1 _ hf (by omega) (jK_deep (show (d + 1) + 2 ≤ d + 3 by omega) (s_isLetterR (fun hl2 => ⟨fun g => by omega, fun _ => ?_⟩) (fun hl2 => ⟨fun _ => ?_, fun g => absurd rfl g⟩)))
      · have hen2 : e < n := hBg e (by unfold isLt at hl2; omega)
        have hr2 := run_in (P := fun b => decide (isLt b)) (B := B) (p := e) (by simpa using hl2) (by omega)
        rw [g17, w32_id (by omega) (by omega)]
        exact ih (e + 1) p _ (by omega) (by omega) (by omega) hp0 hl (by rw [hE]; exact hr2) (nFr_up hf (by omega)) (by rw [up_oth (by omega)]; exact g19) up_same hK
      · rw [run_out (by simpa using hl2)] at hE
        refine s_wordR (B := B) (n := n) (p := p) (e := e) (by rw [hf.1 118 (by omega)]; exact hB) (by rw [hf.2 16 (by omega) (by omega) (by omega) (by omega)]; exact h16) hn.2 hp0 (by omega) hpe g19 g17 hl hE (fun w hw => ⟨fun g => ?_, fun g => ?_⟩) <;> rw [up_same] at g
        · have hw6 : tk B p = (6, 0, e) := by
            rcases hw with w1 | w1 | w1 | w1
            · exact w1.2
            · omega
            · omega
            · omega
          exact hK _ (nFr_up (nFr_up hf (by omega)) (by omega)) (rTk_i hw6 ⟨by rw [up_oth (by omega), up_oth (by omega)]; exact g19, fun g => absurd rfl g, fun g => by omega, fun g => by omega, fun g => by omega, fun g => by omega, fun g => by omega, fun g => by omega, fun _ => up_same⟩)
        · have f19 : jUp (jUp m1 103 20 w) 103 18 1 103 19 = p := by rw [up_oth (by omega), up_oth (by omega)]; exact g19
          have f17 : jUp (jUp m1 103 20 w) 103 18 1 103 17 = e := by rw [up_oth (by omega), up_oth (by omega)]; exact g17
          have f18 : jUp (jUp m1 103 20 w) 103 18 1 103 18 = 1 := up_same
          have f20 : jUp (jUp m1 103 20 w) 103 18 1 103 20 = w := by rw [up_oth (by omega), up_same]
          have ff := nFr_up (nFr_up hf (f := 20) (v := w) (by omega)) (f := 18) (v := 1) (by omega)
          rcases hw with w1 | ⟨w1, w2, w3⟩ | ⟨w1, w2, w3⟩ | ⟨w1, w2, w3⟩
          · exact absurd w1.1 g
          · exact hK _ ff (rTk_i w3 ⟨f19, fun _ => f17, fun g => by omega, fun g => by omega, fun _ => ⟨f18, by rw [f20]; omega⟩, fun g => by omega, fun g => by omega, fun g => by omega, fun g => by omega⟩)
          · exact hK _ ff (rTk_i w3 ⟨f19, fun _ => f17, fun g => by omega, fun g => by omega, fun g => by omega, fun _ => ⟨f18, by rw [f20]; omega⟩, fun g => by omega, fun g => by omega, fun g => by omega⟩)
          · exact hK _ ff (rTk_i w3 ⟨f19, fun _ => f17, fun g => by omega, fun g => by omega, fun g => by omega, fun g => by omega, fun _ => ⟨f18, f20⟩, fun g => by omega, fun g => by omega⟩)
  -- digits
  have dgV_s : ∀ (r : Nat) (p v : Int), dgV B (r + 1) p v = 10 * dgV B r p v + B (p + r) - 48 := by
    intro r
    induction r with
    | zero => intro p v; show 10 * v + B p - 48 = 10 * v + B (p + ((0 : Nat) : Int)) - 48; rw [show p + ((0 : Nat) : Int) = p by omega]
    | succ r ih =>
      intro p v
      show dgV B (r + 1) (p + 1) (10 * v + B p - 48) = 10 * dgV B r (p + 1) (10 * v + B p - 48) + B (p + ((r + 1 : Nat) : Int)) - 48
      rw [ih, show p + 1 + (r : Int) = p + ((r + 1 : Nat) : Int) by omega]
  have dgV_b : ∀ (r : Nat) (p : Int), (∀ i : Nat, i < r → isDg (B (p + i))) → r ≤ 4 → 0 ≤ dgV B r p 0 ∧ dgV B r p 0 ≤ 10 ^ r - 1 := by
    intro r
    induction r with
    | zero => intro p _ _; show 0 ≤ (0 : Int) ∧ (0 : Int) ≤ 10 ^ 0 - 1; decide
    | succ r ih =>
      intro p hd hr
      have := ih p (fun i hi => hd i (by omega)) (by omega)
      have hl := hd r (by omega)
      unfold isDg at hl
      rw [dgV_s, Int.pow_succ]
      omega
  have L140 : ∀ (K : Int → jM → Prop) (r : Nat) (e p : Int) (m1 : jM), e + r = 61 → p ≤ e → e ≤ n → 0 ≤ p → isDg (B p) → dgs B p = runF (fun b => decide (isDg b)) B (61 - e).toNat e → nFr m m1 → m1 103 19 = p → m1 103 17 = e → (e ≤ p + 4 → m1 103 20 = dgV B (e - p).toNat p 0) → (∀ i, p ≤ i → i < e → isDg (B i)) → (∀ m', nFr m m' → rTk B p m' → K 0 m') → aX11_next_140 (d + 3) m1 K := by
    intro K r
    induction r with
    | zero => intro e p m1 he hpe hen; omega
    | succ r ih =>
      intro e p m1 he hpe hen hp0 hl hE hf g19 g17 g20 hds hK
      have w4 : w32 (p + 4) = p + 4 := w32_id (by omega) (by omega)
      refine gX11_next_140 (d + 3) m1 K ?_
      rw [g17]
      refine byte e m1 _ hf (by omega) (jK_deep (show (d + 1) + 2 ≤ d + 3 by omega) (s_isDigitR (fun hl2 => ⟨fun g => by omega, fun _ => ?_⟩) (fun hl2 => ⟨fun _ => ?_, fun g => absurd rfl g⟩)))
      · have hen2 : e < n := hBg e (by unfold isDg at hl2; omega)
        have hr2 := run_in (P := fun b => decide (isDg b)) (B := B) (p := e) (by simpa using hl2) (by omega)
        have hds2 : ∀ i, p ≤ i → i < e + 1 → isDg (B i) := fun i i1 i2 => by
          by_cases hie : i = e
          · rw [hie]; exact hl2
          · exact hds i i1 (by omega)
        rw [g17, g19, w4]
        refine ⟨fun g => ?_, fun g => ?_⟩
        · refine byte e m1 _ hf (by omega) ?_
          rw [up_oth (show ¬ (17 : Int) = 20 by omega), g17, w32_id (z := e + 1) (by omega) (by omega)]
          refine ih (e + 1) p _ (by omega) (by omega) (by omega) hp0 hl (by rw [hE]; exact hr2) (nFr_up (nFr_up hf (by omega)) (by omega)) (by rw [up_oth (by omega), up_oth (by omega)]; exact g19) up_same (fun hle => ?_) hds2 hK
          rw [up_oth (by omega), up_same, g20 (by omega), show (e + 1 - p).toNat = (e - p).toNat + 1 by omega, dgV_s, show p + (((e - p).toNat : Nat) : Int) = e by omega]
          have hb4 := dgV_b (e - p).toNat p (fun i hi => hds _ (by omega) (by omega)) (by omega)
          have h10 : (10 : Int) ^ (e - p).toNat ≤ 1000 := by
            have : ∀ k : Fin 4, (10 : Int) ^ k.val ≤ 1000 := by decide
            exact this ⟨(e - p).toNat, by omega⟩
          have hbe : isDg (B e) := hl2
          unfold isDg at hbe
          rw [w32_id (z := 10 * dgV B (e - p).toNat p 0) (by omega) (by omega), w32_id (z := 10 * dgV B (e - p).toNat p 0 + B e) (by omega) (by omega), w32_id (by omega) (by omega)]
        · rw [w32_id (z := e + 1) (by omega) (by omega)]
          exact ih (e + 1) p _ (by omega) (by omega) (by omega) hp0 hl (by rw [hE]; exact hr2) (nFr_up hf (by omega)) (by rw [up_oth (by omega)]; exact g19) up_same (fun hle => by omega) hds2 hK
      · rw [run_out (by simpa using hl2)] at hE
        have hne : ¬ B p = -1 := by unfold isDg at hl; omega
        have hnl : ¬ isLt (B p) := by unfold isDg at hl; unfold isLt; omega
        rw [g17, g19, w4]
        refine ⟨fun g => ?_, fun g => ?_⟩
        · have htk : tk B p = (6, 0, e) := by
            unfold tk
            rw [if_neg hne, if_neg hnl, if_pos hl, hE, if_pos g]
          exact hK _ (nFr_up hf (by omega)) (rTk_i htk ⟨by rw [up_oth (by omega)]; exact g19, fun g => absurd rfl g, fun g => by omega, fun g => by omega, fun g => by omega, fun g => by omega, fun g => by omega, fun g => by omega, fun _ => up_same⟩)
        · have htk : tk B p = (1, dgV B (e - p).toNat p 0, e) := by
            unfold tk
            rw [if_neg hne, if_neg hnl, if_pos hl, hE, if_neg g]
          exact hK _ (nFr_up hf (by omega)) (rTk_i htk ⟨by rw [up_oth (by omega)]; exact g19, fun _ => by rw [up_oth (by omega)]; exact g17, fun g => by omega, fun _ => ⟨up_same, by rw [up_oth (by omega)]; exact g20 (by omega)⟩, fun g => by omega, fun g => by omega, fun g => by omega, fun g => by omega, fun g => by omega⟩)
  have L0 : ∀ (r : Nat) (e : Int) (m1 : jM), e + r = 61 → 0 ≤ e → e ≤ n → skp B a = runF (fun b => decide (b = 32)) B (61 - e).toNat e → nFr m m1 → m1 103 17 = e → aX11_next_0 (d + 3) m1 Q := by
    intro r
    induction r with
    | zero => intro e m1 he; omega
    | succ r ih =>
      intro e m1 he he0 hen hE hf g17
      refine gX11_next_0 (d + 3) m1 Q ?_
      rw [g17]
      refine byte e m1 _ hf he0 ⟨fun q => ?_, fun q => ?_⟩
      · have hen2 : e < n := hBg e (by omega)
        have hr2 := run_in (P := fun b => decide (b = 32)) (B := B) (p := e) (by simpa using q) (by omega)
        rw [g17, w32_id (by omega) (by omega)]
        exact ih (e + 1) _ (by omega) (by omega) (by omega) (by rw [hE]; exact hr2) (nFr_up hf (by omega)) up_same
      · rw [run_out (by simpa using q)] at hE
        rw [g17, up_oth (show ¬ (17 : Int) = 19 by omega), g17]
        have b19 : jUp m1 103 19 e 103 19 = e := up_same
        have b17 : jUp m1 103 19 e 103 17 = e := by rw [up_oth (by omega)]; exact g17
        have bf : nFr m (jUp m1 103 19 e) := nFr_up hf (by omega)
        generalize jUp m1 103 19 e = m2 at *
        have hQ : ∀ m', nFr m m' → rTk B e m' → Q 0 m' := fun m' k1 k2 => by rw [← hE] at k2; exact h m' k1 k2
        refine byte e m2 _ bf he0 ⟨fun q2 => ?_, fun q2 => ?_⟩
        · have htk : tk B e = (0, 0, e) := by unfold tk; rw [if_pos q2]
          exact hQ _ (nFr_up (nFr_up (nFr_up bf (by omega)) (by omega)) (by omega)) (rTk_i htk ⟨by rw [up_oth (by omega), up_oth (by omega), up_oth (by omega)]; exact b19, fun _ => by rw [up_oth (by omega), up_oth (by omega), up_oth (by omega)]; exact b17, fun _ => up_same, fun g => by omega, fun g => by omega, fun g => by omega, fun g => by omega, fun g => by omega, fun g => by omega⟩)
        · have hen2 : e < n := hBg e q2
          have c19 : jUp (jUp m2 103 18 4) 103 20 (-1) 103 19 = e := by rw [up_oth (by omega), up_oth (by omega)]; exact b19
          have c17 : jUp (jUp m2 103 18 4) 103 20 (-1) 103 17 = e := by rw [up_oth (by omega), up_oth (by omega)]; exact b17
          have c18 : jUp (jUp m2 103 18 4) 103 20 (-1) 103 18 = 4 := by rw [up_oth (by omega), up_same]
          have cf : nFr m (jUp (jUp m2 103 18 4) 103 20 (-1)) := nFr_up (nFr_up bf (by omega)) (by omega)
          generalize jUp (jUp m2 103 18 4) 103 20 (-1) = m3 at *
          refine jK_deep (show (d + 1) + 2 ≤ d + 3 by omega) (s_isLetterR (fun hl => ⟨fun g => by omega, fun _ => ?_⟩) (fun hl => ⟨fun _ => ?_, fun g => absurd rfl g⟩))
          · -- the first letter is looked at once more
            refine gX11_next_73 (d + 3) m3 Q ?_
            rw [c17]
            refine byte e m3 _ cf he0 (jK_deep (show (d + 1) + 2 ≤ d + 3 by omega) (s_isLetterR (fun _ => ⟨fun g => by omega, fun _ => ?_⟩) (fun hl2 => absurd hl hl2)))
            rw [c17, w32_id (by omega) (by omega)]
            have hr2 := run_in (P := fun b => decide (isLt b)) (B := B) (p := e) (by simpa using hl) (by omega)
            exact L73 Q (60 - e).toNat (e + 1) e _ (by omega) (by omega) (by omega) he0 hl hr2 (nFr_up cf (by omega)) (by rw [up_oth (by omega)]; exact c19) up_same hQ
          · refine jK_deep (show (d + 1) + 2 ≤ d + 3 by omega) (s_isDigitR (fun hd2 => ⟨fun g => by omega, fun _ => ?_⟩) (fun hd2 => ⟨fun _ => ?_, fun g => absurd rfl g⟩))
            · exact L140 Q (61 - e).toNat e e _ (by omega) (by omega) (by omega) he0 hd2 rfl (nFr_up cf (by omega)) (by rw [up_oth (by omega)]; exact c19) (by rw [up_oth (by omega)]; exact c17) (fun _ => by rw [up_same, show (e - e).toNat = 0 by omega]; rfl) (fun i i1 i2 => by omega) hQ
            · refine jK_deep (show (d + 2) + 1 ≤ d + 3 by omega) (s_isSignByte (fun hs => ⟨fun g => by omega, fun _ => ?_⟩) (fun hs => ⟨fun _ => ?_, fun g => absurd rfl g⟩))
              · have htk : tk B e = (5, B e, e + 1) := by
                  unfold tk
                  rw [if_neg q2, if_neg hl, if_neg hd2, if_pos hs]
                rw [up_oth (show ¬ (17 : Int) = 20 by omega), up_oth (show ¬ (17 : Int) = 18 by omega), c17, w32_id (by omega) (by omega)]
                exact hQ _ (nFr_up (nFr_up (nFr_up cf (by omega)) (by omega)) (by omega)) (rTk_i htk ⟨by rw [up_oth (by omega), up_oth (by omega), up_oth (by omega)]; exact c19, fun _ => up_same, fun g => by omega, fun g => by omega, fun g => by omega, fun g => by omega, fun g => by omega, fun _ => ⟨by rw [up_oth (by omega), up_oth (by omega), up_same], by rw [up_oth (by omega), up_same]⟩, fun g => by omega⟩)
              · have htk : tk B e = (6, 0, e + 1) := by
                  unfold tk
                  rw [if_neg q2, if_neg hl, if_neg hd2, if_neg hs]
                exact hQ m3 cf (rTk_i htk ⟨c19, fun g => absurd rfl g, fun g => by omega, fun g => by omega, fun g => by omega, fun g => by omega, fun g => by omega, fun g => by omega, fun _ => c18⟩)
  exact gX11_next (d + 3) m Q (L0 (61 - a).toNat a m (by omega) ha.1 ha.2 rfl ⟨fun _ _ => rfl, fun _ _ _ _ _ => rfl⟩ h17)

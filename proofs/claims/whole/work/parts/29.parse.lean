/-! the parser: place, parts, open ones, rows; an answer: 0 out of fuel, 1 fault at the place, 2 well, with its root -/
abbrev pS : Type := Int × Int × Int × jM
abbrev pR : Type := Int × Int × pS
def pF (s : pS) : pR := (1, 0, s)
def pB (r : pR) (K : Int → pS → pR) : pR := if r.1 = 2 then K r.2.1 r.2.2 else r
def pU (s : pS) (f k v : Int) : pS := (s.1, s.2.1, s.2.2.1, jUp s.2.2.2 f k v)
abbrev isS (B : Int → Int) (s : pS) (x : Int) : Prop := (tk B s.1).1 = 5 ∧ (tk B s.1).2.1 = x
def pN (B : Int → Int) (s : pS) : pS := (nx B s.1, s.2.1, s.2.2.1, s.2.2.2)
def pRw (R : jM) (k op num p : Int) : jM := jUp (jUp (jUp (jUp (jUp (jUp (jUp R 2 k op) 3 k num) 4 k 0) 5 k 0) 6 k 0) 7 k 0) 8 k p
def pA (s : pS) (op num : Int) : pS := (s.1, s.2.1 + 1, s.2.2.1, pRw s.2.2.2 s.2.1 op num s.1)
def qO (s : pS) (v : Int) : pS := (s.1, s.2.1, s.2.2.1 + v, s.2.2.2)
def pNew (B : Int → Int) (s : pS) (op num : Int) (K : Int → pS → pR) : pR := if s.2.1 < 24 then K s.2.1 (pN B (pA s op num)) else pF s
def pTk (B : Int → Int) (s : pS) (x : Int) (K : pS → pR) : pR := if isS B s x then K (pN B s) else pF s
def pOp (B : Int → Int) (s : pS) (K : pS → pR) : pR := if s.2.2.1 < 5 then K (pN B (qO s 1)) else pF s
def pTwo (B : Int → Int) (P0 : pS → pR) (k : Int) (s : pS) : pR := if isS B s 40 then pOp B s (fun s => pB (P0 s) (fun l s => pTk B (pU s 4 k l) 44 (fun s => pB (P0 s) (fun r s => pTk B (pU s 5 k r) 41 (fun s => (2, k, qO s (-1))))))) else pF s
def pFa (B : Int → Int) (P0 P5 : pS → pR) (s : pS) : pR :=
  if (tk B s.1).1 = 1 then pNew B s 0 (tk B s.1).2.1 (fun k s => (2, k, s))
  else if (tk B s.1).1 = 2 then pNew B s 1 (tk B s.1).2.1 (fun k s => (2, k, s))
  else if (tk B s.1).1 = 3 then pNew B s 2 (tk B s.1).2.1 (fun k s => (2, k, s))
  else if (tk B s.1).1 = 4 then pNew B s (tk B s.1).2.1 0 (pTwo B P0)
  else if isS B s 45 then pNew B s 6 0 (fun k s => pB (P5 s) (fun l s => (2, k, pU s 4 k l)))
  else if isS B s 40 then pOp B s (fun s => pB (P0 s) (fun v s => pTk B s 41 (fun s => (2, v, qO s (-1)))))
  else if isS B s 124 then (if s.2.1 < 24 then pOp B (pA s 7 0) (fun s1 => pB (P0 s1) (fun v s2 => pTk B (pU s2 4 s.2.1 v) 124 (fun s3 => (2, s.2.1, qO s3 (-1))))) else pF s)
  else pF s
def pEx (B : Int → Int) (P0 P1 : pS → pR) (s : pS) : pR := pB (P1 s) (fun l s => if isS B s 60 then pNew B s 12 0 (fun k s => pB (P1 (pU s 4 k l)) (fun r s => pTk B (pU s 5 k r) 63 (fun s => pB (P0 s) (fun t s => pTk B (pU s 6 k t) 58 (fun s => pB (P0 s) (fun e s => (2, k, pU s 7 k e))))))) else (2, l, s))
/-- what follows the first: sort 0 sums, 1 products -/
def pRe (B : Int → Int) (w : Int) (P3 : pS → pR) (P2 : Int → pS → pR) (a : Int) (s : pS) : pR :=
  if w = 0 then (if isS B s 43 then pNew B s 3 0 (fun k s => pB (P3 (pU s 4 k a)) (fun r s => P2 k (pU s 5 k r))) else if isS B s 45 then pNew B s 4 0 (fun k s => pB (P3 (pU s 4 k a)) (fun r s => P2 k (pU s 5 k r))) else (2, a, s))
  else (if isS B s 42 then pNew B s 5 0 (fun k s => pB (P3 (pU s 4 k a)) (fun r s => P2 k (pU s 5 k r))) else (2, a, s))
/-- 0 expression, 1 sum, 2 what follows in a sum, 3 product, 4 what follows in it, 5 factor -/
def pP (B : Int → Int) : Nat → Int → Int → pS → pR
  | 0, _, _, s => (0, 0, s)
  | f + 1, g, a, s =>
    if g = 0 then pEx B (pP B f 0 0) (pP B f 1 0) s
    else if g = 1 then pB (pP B f 3 0 s) (pP B f 2)
    else if g = 2 then pRe B 0 (pP B f 3 0) (pP B f 2) a s
    else if g = 3 then pB (pP B f 5 0 s) (pP B f 4)
    else if g = 4 then pRe B 1 (pP B f 5 0) (pP B f 4) a s
    else pFa B (pP B f 0 0) (pP B f 5 0) s
/-- the shape of an answer: enough fuel; the open ones come back, parts grow -/
def qW (e : Int) (s : pS) (r : pR) : Prop := r.1 = 1 ∨ (r.1 = 2 ∧ r.2.2.2.2.1 = s.2.2.1 ∧ s.2.1 + e ≤ r.2.2.2.1 ∧ r.2.2.2.1 ≤ 24)
def pK (s : pS) : Prop := 0 ≤ s.2.1 ∧ s.2.1 ≤ 24 ∧ 0 ≤ s.2.2.1 ∧ s.2.2.1 ≤ 5
def wgt (g : Int) : Int := if g = 0 then 3 else if g = 1 then 2 else if g = 3 then 1 else 0
def grw (g : Int) : Int := if g = 2 ∨ g = 4 then 0 else 1
theorem pB_w {e : Int} {s : pS} {r : pR} {K : Int → pS → pR} (h1 : r.1 = 1 ∨ r.1 = 2) (h2 : r.1 = 2 → qW e s (K r.2.1 r.2.2)) : qW e s (pB r K) := by
  unfold pB
  rcases h1 with h | h
  · rw [if_neg (by omega)]; exact Or.inl h
  · rw [if_pos h]; exact h2 h
theorem pNew_w {B : Int → Int} {e : Int} {s0 s : pS} {op num : Int} {K : Int → pS → pR} (h : s.2.1 < 24 → qW e s0 (K s.2.1 (pN B (pA s op num)))) : qW e s0 (pNew B s op num K) := by
  unfold pNew
  split
  · rename_i q; exact h q
  · exact Or.inl rfl
theorem pTk_w {B : Int → Int} {e : Int} {s0 s : pS} {x : Int} {K : pS → pR} (h : qW e s0 (K (pN B s))) : qW e s0 (pTk B s x K) := by
  unfold pTk
  split
  · exact h
  · exact Or.inl rfl
theorem pOp_w {B : Int → Int} {e : Int} {s0 s : pS} {K : pS → pR} (h : s.2.2.1 < 5 → qW e s0 (K (pN B (qO s 1)))) : qW e s0 (pOp B s K) := by
  unfold pOp
  split
  · rename_i q; exact h q
  · exact Or.inl rfl
theorem qW_12 {e : Int} {s : pS} {r : pR} (h : qW e s r) : r.1 = 1 ∨ r.1 = 2 := by
  rcases h with h | h
  · exact Or.inl h
  · exact Or.inr h.1
theorem qW_2 {e : Int} {s : pS} {r : pR} (h : qW e s r) (h2 : r.1 = 2) : r.2.2.2.2.1 = s.2.2.1 ∧ s.2.1 + e ≤ r.2.2.2.1 ∧ r.2.2.2.1 ≤ 24 := by
  rcases h with h | h
  · omega
  · exact h.2
theorem pP_w (B : Int → Int) (f : Nat) : ∀ (g a : Int) (s : pS), 0 ≤ g → g ≤ 5 → pK s → 6 * ((24 - s.2.1) + (5 - s.2.2.1)) + wgt g < (f : Int) → qW (grw g) s (pP B f g a s) := by
  induction f with
  | zero => intro g a s h0 h5 hs hf; unfold pK at hs; unfold wgt at hf; exfalso; revert hf; split <;> (try split) <;> (try split) <;> intro hf <;> omega
  | succ f ih =>
    intro g a s h0 h5 hs hf
    obtain ⟨p, n, dd, R⟩ := s
    unfold pK at hs
    dsimp only at hs hf
    have i0 : ∀ (p n dd : Int) (R : jM), 0 ≤ n → n ≤ 24 → 0 ≤ dd → dd ≤ 5 → 6 * ((24 - n) + (5 - dd)) + 3 < (f : Int) → qW 1 (p, n, dd, R) (pP B f 0 0 (p, n, dd, R)) := fun p n dd R a1 a2 a3 a4 a5 => ih 0 0 _ (by omega) (by omega) ⟨a1, a2, a3, a4⟩ a5
    have i1 : ∀ (p n dd : Int) (R : jM), 0 ≤ n → n ≤ 24 → 0 ≤ dd → dd ≤ 5 → 6 * ((24 - n) + (5 - dd)) + 2 < (f : Int) → qW 1 (p, n, dd, R) (pP B f 1 0 (p, n, dd, R)) := fun p n dd R a1 a2 a3 a4 a5 => ih 1 0 _ (by omega) (by omega) ⟨a1, a2, a3, a4⟩ a5
    have i2 : ∀ (a p n dd : Int) (R : jM), 0 ≤ n → n ≤ 24 → 0 ≤ dd → dd ≤ 5 → 6 * ((24 - n) + (5 - dd)) < (f : Int) → qW 0 (p, n, dd, R) (pP B f 2 a (p, n, dd, R)) := fun a p n dd R a1 a2 a3 a4 a5 => ih 2 a _ (by omega) (by omega) ⟨a1, a2, a3, a4⟩ (by rw [show wgt 2 = 0 from rfl]; dsimp only; omega)
    have i3 : ∀ (p n dd : Int) (R : jM), 0 ≤ n → n ≤ 24 → 0 ≤ dd → dd ≤ 5 → 6 * ((24 - n) + (5 - dd)) + 1 < (f : Int) → qW 1 (p, n, dd, R) (pP B f 3 0 (p, n, dd, R)) := fun p n dd R a1 a2 a3 a4 a5 => ih 3 0 _ (by omega) (by omega) ⟨a1, a2, a3, a4⟩ a5
    have i4 : ∀ (a p n dd : Int) (R : jM), 0 ≤ n → n ≤ 24 → 0 ≤ dd → dd ≤ 5 → 6 * ((24 - n) + (5 - dd)) < (f : Int) → qW 0 (p, n, dd, R) (pP B f 4 a (p, n, dd, R)) := fun a p n dd R a1 a2 a3 a4 a5 => ih 4 a _ (by omega) (by omega) ⟨a1, a2, a3, a4⟩ (by rw [show wgt 4 = 0 from rfl]; dsimp only; omega)
    have i5 : ∀ (p n dd : Int) (R : jM), 0 ≤ n → n ≤ 24 → 0 ≤ dd → dd ≤ 5 → 6 * ((24 - n) + (5 - dd)) < (f : Int) → qW 1 (p, n, dd, R) (pP B f 5 0 (p, n, dd, R)) := fun p n dd R a1 a2 a3 a4 a5 => ih 5 0 _ (by omega) (by omega) ⟨a1, a2, a3, a4⟩ (by rw [show wgt 5 = 0 from rfl]; dsimp only; omega)
    clear ih
    have fin : ∀ (e : Int) (k : Int) (p1 n1 d1 : Int) (R1 : jM), d1 = dd → n + e ≤ n1 → n1 ≤ 24 → qW e (p, n, dd, R) (2, k, p1, n1, d1, R1) := fun e k p1 n1 d1 R1 a1 a2 a3 => Or.inr ⟨rfl, a1, a2, a3⟩
    have st : ∀ (e0 e : Int) (s1 : pS) (r : pR) (K : Int → pS → pR), qW e0 s1 r → (∀ k p1 n1 d1 R1, d1 = s1.2.2.1 → s1.2.1 + e0 ≤ n1 → n1 ≤ 24 → qW e (p, n, dd, R) (K k (p1, n1, d1, R1))) → qW e (p, n, dd, R) (pB r K) := by
      intro e0 e s1 r K h hK
      refine pB_w (qW_12 h) (fun h2 => ?_)
      obtain ⟨b1, b2, b3⟩ := qW_2 h h2
      obtain ⟨o, l, p1, n1, d1, R1⟩ := r
      exact hK l p1 n1 d1 R1 b1 b2 b3
    show qW (grw g) (p, n, dd, R) (if g = 0 then pEx B (pP B f 0 0) (pP B f 1 0) (p, n, dd, R)
      else if g = 1 then pB (pP B f 3 0 (p, n, dd, R)) (pP B f 2)
      else if g = 2 then pRe B 0 (pP B f 3 0) (pP B f 2) a (p, n, dd, R)
      else if g = 3 then pB (pP B f 5 0 (p, n, dd, R)) (pP B f 4)
      else if g = 4 then pRe B 1 (pP B f 5 0) (pP B f 4) a (p, n, dd, R)
      else pFa B (pP B f 0 0) (pP B f 5 0) (p, n, dd, R))
    generalize pP B f 0 0 = P0 at *
    generalize pP B f 1 0 = P1 at *
    generalize pP B f 2 = P2 at *
    generalize pP B f 3 0 = P3 at *
    generalize pP B f 4 = P4 at *
    generalize pP B f 5 0 = P5 at *
    have two : ∀ (op : Int) (P3 : pS → pR) (P2 : Int → pS → pR) (a : Int), 6 * ((24 - n) + (5 - dd)) < ((f + 1 : Nat) : Int) → (∀ (p n dd : Int) (R : jM), 0 ≤ n → n ≤ 24 → 0 ≤ dd → dd ≤ 5 → 6 * ((24 - n) + (5 - dd)) + 1 < (f : Int) → qW 1 (p, n, dd, R) (P3 (p, n, dd, R))) → (∀ (a p n dd : Int) (R : jM), 0 ≤ n → n ≤ 24 → 0 ≤ dd → dd ≤ 5 → 6 * ((24 - n) + (5 - dd)) < (f : Int) → qW 0 (p, n, dd, R) (P2 a (p, n, dd, R))) →
        qW 0 (p, n, dd, R) (pNew B (p, n, dd, R) op 0 (fun k s => pB (P3 (pU s 4 k a)) (fun r s => P2 k (pU s 5 k r)))) := by
      intro op P3 P2 a hf i3 i2
      refine pNew_w (fun q => ?_)
      dsimp only at q
      dsimp only [pN, pA, pU]
      refine st 1 0 _ _ _ (i3 _ _ _ _ (by omega) (by omega) (by omega) (by omega) (by omega)) ?_
      dsimp only
      intro k p1 n1 d1 R1 b1 b2 b3
      have w := i2 n p1 n1 d1 (jUp R1 5 n k) (by omega) (by omega) (by omega) (by omega) (by omega)
      rcases w with w | ⟨w1, w2, w3, w4⟩
      · exact Or.inl w
      · exact Or.inr ⟨w1, by rw [w2]; exact b1, by dsimp only at w3 ⊢; omega, w4⟩
    have hg : g = 0 ∨ g = 1 ∨ g = 2 ∨ g = 3 ∨ g = 4 ∨ g = 5 := by omega
    rcases hg with rfl | rfl | rfl | rfl | rfl | rfl
    · rw [if_pos rfl]
      rw [show wgt 0 = 3 from rfl] at hf
      rw [show grw 0 = 1 from rfl]
      refine st 1 1 _ _ _ (i1 _ _ _ _ (by omega) (by omega) (by omega) (by omega) (by omega)) ?_
      dsimp only
      intro l p1 n1 d1 R1 b1 b2 b3
      split
      · refine pNew_w (fun q => ?_)
        dsimp only [pN, pA, pU] at q ⊢
        refine st 1 1 _ _ _ (i1 _ _ _ _ (by omega) (by omega) (by omega) (by omega) (by omega)) ?_
        dsimp only
        intro r p2 n2 d2 R2 c1 c2 c3
        refine pTk_w ?_
        dsimp only [pN]
        refine st 1 1 _ _ _ (i0 _ _ _ _ (by omega) (by omega) (by omega) (by omega) (by omega)) ?_
        dsimp only
        intro t p3 n3 d3 R3 e1 e2 e3
        refine pTk_w ?_
        dsimp only [pN]
        refine st 1 1 _ _ _ (i0 _ _ _ _ (by omega) (by omega) (by omega) (by omega) (by omega)) ?_
        dsimp only
        intro t p4 n4 d4 R4 g1 g2 g3
        exact fin 1 _ _ _ _ _ (by omega) (by omega) (by omega)
      · exact fin 1 l p1 n1 d1 R1 b1 b2 b3
    · rw [if_neg (show ¬ (1 : Int) = 0 by omega), if_pos rfl]
      rw [show wgt 1 = 2 from rfl] at hf
      rw [show grw 1 = 1 from rfl]
      refine st 1 1 _ _ _ (i3 _ _ _ _ (by omega) (by omega) (by omega) (by omega) (by omega)) ?_
      dsimp only
      intro l p1 n1 d1 R1 b1 b2 b3
      rcases i2 l p1 n1 d1 R1 (by omega) (by omega) (by omega) (by omega) (by omega) with w | ⟨w1, w2, w3, w4⟩
      · exact Or.inl w
      · exact Or.inr ⟨w1, by rw [w2]; exact b1, by dsimp only at w3 ⊢; omega, w4⟩
    · rw [if_neg (show ¬ (2 : Int) = 0 by omega), if_neg (show ¬ (2 : Int) = 1 by omega), if_pos rfl]
      rw [show wgt 2 = 0 from rfl] at hf
      rw [show grw 2 = 0 from rfl]
      unfold pRe
      rw [if_pos rfl]
      split
      · exact two 3 P3 P2 a (by omega) i3 i2
      split
      · exact two 4 P3 P2 a (by omega) i3 i2
      · exact fin 0 a p n dd R rfl (by omega) (by omega)
    · rw [if_neg (show ¬ (3 : Int) = 0 by omega), if_neg (show ¬ (3 : Int) = 1 by omega), if_neg (show ¬ (3 : Int) = 2 by omega), if_pos rfl]
      rw [show wgt 3 = 1 from rfl] at hf
      rw [show grw 3 = 1 from rfl]
      refine st 1 1 _ _ _ (i5 _ _ _ _ (by omega) (by omega) (by omega) (by omega) (by omega)) ?_
      dsimp only
      intro l p1 n1 d1 R1 b1 b2 b3
      rcases i4 l p1 n1 d1 R1 (by omega) (by omega) (by omega) (by omega) (by omega) with w | ⟨w1, w2, w3, w4⟩
      · exact Or.inl w
      · exact Or.inr ⟨w1, by rw [w2]; exact b1, by dsimp only at w3 ⊢; omega, w4⟩
    · rw [if_neg (show ¬ (4 : Int) = 0 by omega), if_neg (show ¬ (4 : Int) = 1 by omega), if_neg (show ¬ (4 : Int) = 2 by omega), if_neg (show ¬ (4 : Int) = 3 by omega), if_pos rfl]
      rw [show wgt 4 = 0 from rfl] at hf
      rw [show grw 4 = 0 from rfl]
      unfold pRe
      rw [if_neg (show ¬ (1 : Int) = 0 by omega)]
      split
      · exact two 5 P5 P4 a (by omega) (fun p n dd R a1 a2 a3 a4 a5 => i5 p n dd R a1 a2 a3 a4 (by omega)) i4
      · exact fin 0 a p n dd R rfl (by omega) (by omega)
    · rw [if_neg (show ¬ (5 : Int) = 0 by omega), if_neg (show ¬ (5 : Int) = 1 by omega), if_neg (show ¬ (5 : Int) = 2 by omega), if_neg (show ¬ (5 : Int) = 3 by omega), if_neg (show ¬ (5 : Int) = 4 by omega)]
      rw [show wgt 5 = 0 from rfl] at hf
      rw [show grw 5 = 1 from rfl]
      unfold pFa
      have leaf : ∀ (op num : Int), qW 1 (p, n, dd, R) (pNew B (p, n, dd, R) op num (fun k s => (2, k, s))) := by
        intro op num
        refine pNew_w (fun q => ?_)
        dsimp only [pN, pA] at q ⊢
        exact fin 1 _ _ _ _ _ (by omega) (by omega) (by omega)
      split
      · exact leaf _ _
      split
      · exact leaf _ _
      split
      · exact leaf _ _
      split
      · refine pNew_w (fun q => ?_)
        unfold pTwo
        split
        · refine pOp_w (fun q2 => ?_)
          dsimp only [pN, pA, pU, qO] at q q2 ⊢
          refine st 1 1 _ _ _ (i0 _ _ _ _ (by omega) (by omega) (by omega) (by omega) (by omega)) ?_
          dsimp only
          intro l p1 n1 d1 R1 b1 b2 b3
          refine pTk_w ?_
          dsimp only [pN]
          refine st 1 1 _ _ _ (i0 _ _ _ _ (by omega) (by omega) (by omega) (by omega) (by omega)) ?_
          dsimp only
          intro t p3 n3 d3 R3 e1 e2 e3
          refine pTk_w ?_
          dsimp only [pN]
          exact fin 1 _ _ _ _ _ (by omega) (by omega) (by omega)
        · exact Or.inl rfl
      split
      · refine pNew_w (fun q => ?_)
        dsimp only [pN, pA, pU] at q ⊢
        refine st 1 1 _ _ _ (i5 _ _ _ _ (by omega) (by omega) (by omega) (by omega) (by omega)) ?_
        dsimp only
        intro l p1 n1 d1 R1 b1 b2 b3
        exact fin 1 _ _ _ _ _ (by omega) (by omega) (by omega)
      split
      · refine pOp_w (fun q2 => ?_)
        dsimp only [pN, pU, qO] at q2 ⊢
        refine st 1 1 _ _ _ (i0 _ _ _ _ (by omega) (by omega) (by omega) (by omega) (by omega)) ?_
        dsimp only
        intro l p1 n1 d1 R1 b1 b2 b3
        refine pTk_w ?_
        dsimp only [pN]
        exact fin 1 _ _ _ _ _ (by omega) (by omega) (by omega)
      split
      · split
        · rename_i q
          refine pOp_w (fun q2 => ?_)
          dsimp only [pN, pA, pU, qO] at q q2 ⊢
          refine st 1 1 _ _ _ (i0 _ _ _ _ (by omega) (by omega) (by omega) (by omega) (by omega)) ?_
          dsimp only
          intro l p1 n1 d1 R1 b1 b2 b3
          refine pTk_w ?_
          dsimp only [pN]
          exact fin 1 _ _ _ _ _ (by omega) (by omega) (by omega)
        · exact Or.inl rfl
      · exact Or.inl rfl

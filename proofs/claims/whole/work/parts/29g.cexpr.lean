/-! the class's parser is pP: what a recursion gives, sums and products -/
def cGo (g : Int) (d : Nat) (t x : Int) (m : jM) (Q : Int → jM → Prop) : Prop :=
  if g = 0 then jK d zX8_expr [jO 8 45] m Q else if g = 1 then jK d zX8_sum [jO 8 45] m Q else if g = 2 then aX8_sum_11 d x m Q else if g = 3 then jK d zX8_product [jO 8 45] m Q else if g = 4 then aX8_product_11 d x m Q else aX8_factor_4 d t x m Q
def cIH (B : Int → Int) (L D : Int) (m0 : jM) (f : Nat) : Prop := ∀ (g a : Int) (s : pS) (m : jM) (Q : Int → jM → Prop) (d : Nat) (t x A lo : Int), 0 ≤ g → g ≤ 5 → cPs B L D m0 s m → cPq B L D m0 A lo t m (pP B f g a s) Q → 3 * f + 8 ≤ d → (0 ≤ x ∧ x ≤ s.2.1) → (t = 0 ∨ (t = 1 ∧ g = 5)) → (0 ≤ A ∧ 0 ≤ lo ∧ 2 * A + 2 * t ≤ 3 * lo) →
  ((g ≠ 2 ∧ g ≠ 4 ∧ A = m D 1 ∧ lo = s.2.1) ∨ ((g = 2 ∨ g = 4) ∧ cO D A lo 0 m a s m)) → cGo g d t x m Q
theorem cI_0 {B : Int → Int} {L D : Int} {m0 : jM} {f : Nat} (ih : cIH B L D m0 f) {s : pS} {m : jM} {Q : Int → jM → Prop} {d : Nat} (hs : cPs B L D m0 s m) (hq : cPq B L D m0 (m D 1) s.2.1 0 m (pP B f 0 0 s) Q) (hd : 3 * f + 8 ≤ d) (hA : 0 ≤ m D 1 ∧ 2 * m D 1 ≤ 3 * s.2.1) : jK d zX8_expr [jO 8 45] m Q :=
  ih 0 0 s m Q d 0 0 _ _ (by omega) (by omega) hs hq hd ⟨by omega, hs.2.2.2.2.2.2.1.1⟩ (Or.inl rfl) ⟨hA.1, hs.2.2.2.2.2.2.1.1, by omega⟩ (Or.inl ⟨by omega, by omega, rfl, rfl⟩)
theorem cI_1 {B : Int → Int} {L D : Int} {m0 : jM} {f : Nat} (ih : cIH B L D m0 f) {s : pS} {m : jM} {Q : Int → jM → Prop} {d : Nat} (hs : cPs B L D m0 s m) (hq : cPq B L D m0 (m D 1) s.2.1 0 m (pP B f 1 0 s) Q) (hd : 3 * f + 8 ≤ d) (hA : 0 ≤ m D 1 ∧ 2 * m D 1 ≤ 3 * s.2.1) : jK d zX8_sum [jO 8 45] m Q :=
  ih 1 0 s m Q d 0 0 _ _ (by omega) (by omega) hs hq hd ⟨by omega, hs.2.2.2.2.2.2.1.1⟩ (Or.inl rfl) ⟨hA.1, hs.2.2.2.2.2.2.1.1, by omega⟩ (Or.inl ⟨by omega, by omega, rfl, rfl⟩)
theorem cI_3 {B : Int → Int} {L D : Int} {m0 : jM} {f : Nat} (ih : cIH B L D m0 f) {s : pS} {m : jM} {Q : Int → jM → Prop} {d : Nat} (hs : cPs B L D m0 s m) (hq : cPq B L D m0 (m D 1) s.2.1 0 m (pP B f 3 0 s) Q) (hd : 3 * f + 8 ≤ d) (hA : 0 ≤ m D 1 ∧ 2 * m D 1 ≤ 3 * s.2.1) : jK d zX8_product [jO 8 45] m Q :=
  ih 3 0 s m Q d 0 0 _ _ (by omega) (by omega) hs hq hd ⟨by omega, hs.2.2.2.2.2.2.1.1⟩ (Or.inl rfl) ⟨hA.1, hs.2.2.2.2.2.2.1.1, by omega⟩ (Or.inl ⟨by omega, by omega, rfl, rfl⟩)
theorem cI_5 {B : Int → Int} {L D : Int} {m0 : jM} {f : Nat} (ih : cIH B L D m0 f) {s : pS} {m : jM} {Q : Int → jM → Prop} {d : Nat} (hs : cPs B L D m0 s m) (hq : cPq B L D m0 (m D 1) s.2.1 0 m (pP B f 5 0 s) Q) (hd : 3 * f + 9 ≤ d) (hA : 0 ≤ m D 1 ∧ 2 * m D 1 ≤ 3 * s.2.1) : jK d zX8_factor [jO 8 45] m Q := by
  obtain ⟨d, rfl⟩ : ∃ e, d = e + 1 := ⟨d - 1, by omega⟩
  exact gX8_factor d m Q (ih 5 0 s m Q d 0 0 _ _ (by omega) (by omega) hs hq (by omega) ⟨by omega, hs.2.2.2.2.2.2.1.1⟩ (Or.inl rfl) ⟨hA.1, hs.2.2.2.2.2.2.1.1, by omega⟩ (Or.inl ⟨by omega, by omega, rfl, rfl⟩))
def eqB (D A : Int) (m m' : jM) : Prop := ∀ i, i < A → m' (D + 1) i = m (D + 1) i ∧ m' (D + 2) i = m (D + 2) i ∧ m' (D + 3) i = m (D + 3) i
theorem eqB_t {D A A' : Int} {m m1 m2 : jM} (h : eqB D A m m1) (h' : eqB D A' m1 m2) (hA : A ≤ A') : eqB D A m m2 := fun i hi => by
  obtain ⟨a1, a2, a3⟩ := h i hi
  obtain ⟨b1, b2, b3⟩ := h' i (by omega)
  exact ⟨b1.trans a1, b2.trans a2, b3.trans a3⟩
theorem eqB_q {D A : Int} {m m' : jM} (h1 : m' (D + 1) = m (D + 1)) (h2 : m' (D + 2) = m (D + 2)) (h3 : m' (D + 3) = m (D + 3)) : eqB D A m m' := fun i _ => by rw [h1, h2, h3]; exact ⟨rfl, rfl, rfl⟩
theorem cPq_re {B : Int → Int} {L D : Int} {m0 : jM} {A lo t : Int} {m m1 : jM} {r : pR} {Q : Int → jM → Prop} (h : cPq B L D m0 A lo t m r Q) (he : eqB D A m m1) : cPq B L D m0 A lo t m1 r Q :=
  ⟨h.1, fun g m' hm hO => h.2.1 g m' hm ⟨eqB_t he hO.1 (Int.le_refl A), hO.2⟩, h.2.2⟩
theorem cO_re {D A lo t : Int} {m m1 : jM} {k : Int} {s : pS} (h : cO D A lo t m k s m1) : cO D A lo t m1 k s m1 := ⟨fun _ _ => ⟨rfl, rfl, rfl⟩, h.2⟩
theorem up_no {R : jM} {f k v g j : Int} (h : ¬ j = k) : jUp R f k v g j = R g j := by unfold jUp; rw [if_neg (fun q => h q.2)]
theorem up_fi {R : jM} {f k v g j : Int} (h : ¬ g = f) : jUp R f k v g j = R g j := by unfold jUp; rw [if_neg (fun q => h q.1)]
theorem pRw_no {R : jM} {k op num p g j : Int} (h : ¬ j = k) : pRw R k op num p g j = R g j := by
  unfold pRw
  rw [up_no h, up_no h, up_no h, up_no h, up_no h, up_no h, up_no h]
theorem pRw_2 {R : jM} {k op num p : Int} : pRw R k op num p 2 k = op := by
  unfold pRw
  rw [up_fi (by omega), up_fi (by omega), up_fi (by omega), up_fi (by omega), up_fi (by omega), up_fi (by omega), up_same]
theorem pRw_3 {R : jM} {k op num p : Int} : pRw R k op num p 3 k = num := by
  unfold pRw
  rw [up_fi (by omega), up_fi (by omega), up_fi (by omega), up_fi (by omega), up_fi (by omega), up_same]
theorem pRw_8 {R : jM} {k op num p : Int} : pRw R k op num p 8 k = p := by
  unfold pRw
  rw [up_same]
theorem cO_two {D A lo l r op : Int} {mB m1 m2 m3 m4 : jM} {p1 n1 d1 p3 n3 d3 : Int} {R1 R3 : jM} (hl : cO D A lo 0 mB l (p1, n1, d1, R1) m1) (e2 : ∀ j, 1 ≤ j → j ≤ 3 → m2 (D + j) = m1 (D + j)) (e2' : m2 D 1 = m1 D 1) (O3 : cO D (m2 D 1) (n1 + 1) 0 m2 r (p3, n3, d3, R3) m3)
    (H3 : ∀ f j, j < n1 + 1 → R3 f j = jUp (pRw R1 n1 op 0 p1) 4 n1 l f j) (e4 : m4 D 1 = m3 D 1 + 1) (s4 : ∀ i, i ≠ m3 D 1 → m4 (D + 1) i = m3 (D + 1) i ∧ m4 (D + 2) i = m3 (D + 2) i ∧ m4 (D + 3) i = m3 (D + 3) i) (v1 : m4 (D + 1) (m3 D 1) = cop op) (v3 : m4 (D + 3) (m3 D 1) = p1) (hop : 3 ≤ op ∧ op ≤ 5) : cO D A lo 0 mB n1 (p3, n3, d3, jUp R3 5 n1 r) m4 := by
  obtain ⟨a1, a2, a3, a4⟩ := hl
  obtain ⟨b1, b2, b3, b4⟩ := O3
  unfold cN at a4 b4
  rw [if_pos rfl] at a4 b4
  rw [e2'] at b1 b2 b3 b4
  dsimp only at a3 a4 b3 b4
  have a5 := cX_k a4
  have b5 := cX_k b4
  have a6 := cX_lt a4
  have b6 := cX_lt b4
  have z1 := e2 1 (by omega) (by omega)
  have z2 := e2 2 (by omega) (by omega)
  have z3 := e2 3 (by omega) (by omega)
  have st1 : ∀ i, i < m1 D 1 → m4 (D + 1) i = m1 (D + 1) i ∧ m4 (D + 2) i = m1 (D + 2) i ∧ m4 (D + 3) i = m1 (D + 3) i := by
    intro i hi
    obtain ⟨x1, x2, x3⟩ := s4 i (by omega)
    obtain ⟨y1, y2, y3⟩ := b1 i hi
    exact ⟨by rw [x1, y1, z1], by rw [x2, y2, z2], by rw [x3, y3, z3]⟩
  refine ⟨fun i hi => ?_, by omega, by dsimp only; omega, ?_⟩
  · obtain ⟨x1, x2, x3⟩ := st1 i (by omega)
    obtain ⟨y1, y2, y3⟩ := a1 i hi
    exact ⟨x1.trans y1, x2.trans y2, x3.trans y3⟩
  unfold cN
  rw [if_pos rfl, e4]
  have k2 : jUp R3 5 n1 r 2 n1 = op := by rw [up_fi (by omega), H3 _ _ (by omega), up_fi (by omega), pRw_2]
  refine cX_two (lo1 := lo) (hi1 := n1) (lo2 := n1 + 1) (hi2 := n3) (z := m1 D 1) (l := l) (r := r) ⟨by omega, by dsimp only; omega⟩ ⟨by omega, by dsimp only; omega, by dsimp only; omega⟩ ⟨by omega, by dsimp only; omega, by dsimp only; omega⟩ (cX_c (fun f j _ _ c e => ?_) (fun i c e => st1 i e) a4) (cX_c (fun f j _ _ c e => ?_) (fun i c e => s4 i (by omega)) b4) ?_ ?_ ?_ ?_ ?_
  · show jUp R3 5 n1 r f j = R1 f j
    rw [up_no (by omega), H3 _ _ (by omega), up_no (by omega), pRw_no (by omega)]
  · show jUp R3 5 n1 r f j = R3 f j
    rw [up_no (by omega)]
  · dsimp only; rw [k2]; omega
  · show jUp R3 5 n1 r 4 n1 = l
    rw [up_fi (by omega), H3 _ _ (by omega), up_same]
  · exact up_same
  · dsimp only; rw [k2]; exact v1
  · show m4 (D + 3) (m3 D 1) = jUp R3 5 n1 r 8 n1
    rw [up_fi (by omega), H3 _ _ (by omega), up_fi (by omega), pRw_8]
    exact v3

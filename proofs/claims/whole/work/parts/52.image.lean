/-! image, back -/
theorem jCp_at {m : jM} {a0 a1 n x : Int} (h : 0 ≤ x ∧ x < n) : jCp m a0 0 a1 0 n a1 x = m a0 x := by
  unfold jCp
  rw [if_pos (by omega), show (0 + (x - 0) : Int) = x by omega]
theorem jCp_ne {m : jM} {a0 a1 n q : Int} (h : q ≠ a1) : jCp m a0 0 a1 0 n q = m q := by
  funext x
  unfold jCp
  rw [if_neg (fun w => h w.1)]
theorem s_rtake {d : Nat} {pd ps : Int} {m : jM} {Q : Int → jM → Prop} (hd : pd + 3 < ps ∨ ps + 3 < pd) (h : ∀ m' : jM, (∀ q, q < pd ∨ pd + 3 < q → m' q = m q) → m' pd 0 = m ps 0 → m' pd 1 = m ps 1 → (∀ y : Int, 0 ≤ y → y < 40 → m' (pd + 1) y = m (ps + 1) y ∧ m' (pd + 2) y = m (ps + 2) y ∧ m' (pd + 3) y = m (ps + 3) y) → Q 0 m') : jK (d + 1) zX6_take [jO 6 pd, jO 6 ps] m Q := by
  refine gX6_take d pd ps m Q ⟨by omega, by omega, by omega, h _ (fun q hq => ?_) ?_ ?_ (fun y y1 y2 => ⟨?_, ?_, ?_⟩)⟩
  · rw [jCp_ne (by omega), jCp_ne (by omega), jCp_ne (by omega), up_ne (by omega), up_ne (by omega)]
  · rw [jCp_ne (by omega), jCp_ne (by omega), jCp_ne (by omega), up_oth (by omega), up_same]
  · rw [jCp_ne (by omega), jCp_ne (by omega), jCp_ne (by omega), up_same, up_ne (by omega)]
  · rw [jCp_ne (by omega), jCp_ne (by omega), jCp_at ⟨y1, y2⟩, up_ne (by omega), up_ne (by omega)]
  · rw [jCp_ne (by omega), jCp_at ⟨y1, y2⟩, jCp_ne (by omega), up_ne (by omega), up_ne (by omega)]
  · rw [jCp_at ⟨y1, y2⟩, jCp_ne (by omega), jCp_ne (by omega), up_ne (by omega), up_ne (by omega)]
/-- a rule's steps stand elsewhere too -/
def cpR (m m' : jM) (ps pd : Int) : Prop := m' pd 0 = m ps 0 ∧ m' pd 1 = m ps 1 ∧ ∀ y : Int, 0 ≤ y → y < 40 → m' (pd + 1) y = m (ps + 1) y ∧ m' (pd + 2) y = m (ps + 2) y ∧ m' (pd + 3) y = m (ps + 3) y
theorem s_ctake {d : Nat} {p0 p1 : Int} {pd ps : Int → Int} {m : jM} {Q : Int → jM → Prop} (h5 : ∀ i : Int, 0 ≤ i → i < 4 → m (p0 + 4) i = pd i ∧ m (p1 + 4) i = ps i) (hA : ∀ i j : Int, 0 ≤ i → i < 4 → 0 ≤ j → j < 4 → pd i + 3 < ps j ∨ ps j + 3 < pd i) (hB : ∀ i j : Int, 0 ≤ i → i < 4 → 0 ≤ j → j < 4 → i ≠ j → pd i + 3 < pd j ∨ pd j + 3 < pd i)
    (hC : ∀ i : Int, 0 ≤ i → i < 4 → (p0 + 4 < pd i ∨ pd i + 3 < p0) ∧ (p1 + 4 < pd i ∨ pd i + 3 < p1) ∧ (p0 + 4 < ps i ∨ ps i + 3 < p0)) (hD : p0 + 4 < p1 ∨ p1 + 4 < p0)
    (h : ∀ m' : jM, (∀ q, (q < p0 ∨ p0 + 3 < q) → (∀ i : Int, 0 ≤ i → i < 4 → q < pd i ∨ pd i + 3 < q) → m' q = m q) → m' p0 0 = m p1 0 → m' p0 1 = m p1 1 → (∀ y : Int, 0 ≤ y → y < 48 → m' (p0 + 1) y = m (p1 + 1) y) → (∀ y : Int, 0 ≤ y → y < 64 → m' (p0 + 2) y = m (p1 + 2) y ∧ m' (p0 + 3) y = m (p1 + 3) y) → (∀ i : Int, 0 ≤ i → i < 4 → cpR m m' (ps i) (pd i)) → Q 0 m') : jK (d + 2) zX0_take [jO 0 p0, jO 0 p1] m Q := by
  refine gX0_take (d + 1) p0 p1 m Q ⟨by omega, by omega, by omega, ?_⟩
  generalize hm1 : jCp (jCp (jCp (jUp (jUp m p0 0 (m p1 0)) p0 1 ((jUp m p0 0 (m p1 0)) p1 1)) (p1 + 1) 0 (p0 + 1) 0 48) (p1 + 2) 0 (p0 + 2) 0 64) (p1 + 3) 0 (p0 + 3) 0 64 = m1
  have f1 : ∀ q, (q < p0 ∨ p0 + 3 < q) → m1 q = m q := fun q hq => by rw [← hm1, jCp_ne (by omega), jCp_ne (by omega), jCp_ne (by omega), up_ne (by omega), up_ne (by omega)]
  have e0 : m1 p0 0 = m p1 0 := by rw [← hm1, jCp_ne (by omega), jCp_ne (by omega), jCp_ne (by omega), up_oth (by omega), up_same]
  have e1 : m1 p0 1 = m p1 1 := by rw [← hm1, jCp_ne (by omega), jCp_ne (by omega), jCp_ne (by omega), up_same, up_ne (by omega)]
  have e2 : ∀ y : Int, 0 ≤ y → y < 48 → m1 (p0 + 1) y = m (p1 + 1) y := fun y y1 y2 => by rw [← hm1, jCp_ne (by omega), jCp_ne (by omega), jCp_at ⟨y1, y2⟩, up_ne (by omega), up_ne (by omega)]
  have e3 : ∀ y : Int, 0 ≤ y → y < 64 → m1 (p0 + 2) y = m (p1 + 2) y ∧ m1 (p0 + 3) y = m (p1 + 3) y := fun y y1 y2 => by
    refine ⟨?_, ?_⟩
    · rw [← hm1, jCp_ne (by omega), jCp_at ⟨y1, y2⟩, jCp_ne (by omega), up_ne (by omega), up_ne (by omega)]
    · rw [← hm1, jCp_at ⟨y1, y2⟩, jCp_ne (by omega), jCp_ne (by omega), up_ne (by omega), up_ne (by omega)]
  have loop : ∀ (k : Nat) (i : Int) (mm : jM), 0 ≤ i → i + k = 4 → (∀ q, (∀ x : Int, 0 ≤ x → x < 4 → q < pd x ∨ pd x + 3 < q) → mm q = m1 q) → (∀ x : Int, 0 ≤ x → x < i → cpR m mm (ps x) (pd x)) → aX0_take_66 (d + 1) p0 p1 i mm Q := by
    intro k
    induction k with
    | zero =>
      intro i mm i0 ik f e
      have out : ∀ q, p0 ≤ q → q ≤ p0 + 3 → mm q = m1 q := fun q a b => f q (fun x x1 x2 => by have := (hC x x1 x2).1; omega)
      refine gX0_take_66 (d + 1) p0 p1 i mm Q ⟨fun q => by omega, fun _ => h mm (fun q a b => by rw [f q b, f1 q a]) (by rw [out p0 (by omega) (by omega)]; exact e0) (by rw [out p0 (by omega) (by omega)]; exact e1) (fun y y1 y2 => by rw [out _ (by omega) (by omega)]; exact e2 y y1 y2) (fun y y1 y2 => by rw [out _ (by omega) (by omega), out _ (by omega) (by omega)]; exact e3 y y1 y2) (fun x x1 x2 => e x x1 (by omega))⟩
    | succ k ih =>
      intro i mm i0 ik f e
      have r0 : mm (p0 + 4) = m (p0 + 4) := by rw [f _ (fun x x1 x2 => by have := (hC x x1 x2).1; omega)]; exact f1 _ (by omega)
      have r1 : mm (p1 + 4) = m (p1 + 4) := by rw [f _ (fun x x1 x2 => by have := (hC x x1 x2).2.1; omega)]; exact f1 _ (by omega)
      refine gX0_take_66 (d + 1) p0 p1 i mm Q ⟨fun q => ⟨by omega, by omega, ?_⟩, fun q => by omega⟩
      rw [r0, r1, (h5 i i0 (by omega)).1, (h5 i i0 (by omega)).2]
      have src : ∀ z : Int, 0 ≤ z → z ≤ 3 → mm (ps i + z) = m (ps i + z) := fun z z1 z2 => by
        rw [f _ (fun x x1 x2 => by have := hA x i x1 x2 i0 (by omega); omega)]
        have := (hC i i0 (by omega)).2.2
        exact f1 _ (by omega)
      have s0 := src 0 (by omega) (by omega)
      rw [Int.add_zero] at s0
      refine s_rtake (hA i i i0 (by omega) i0 (by omega)) (fun m2 f2 a0 a1 a2 => ?_)
      rw [w32_id (by omega) (by omega)]
      refine ih (i + 1) m2 (by omega) (by omega) (fun q hq => by rw [f2 q (hq i i0 (by omega)), f q hq]) (fun x x1 x2 => ?_)
      by_cases hx : x = i
      · rw [hx]
        refine ⟨by rw [a0, s0], by rw [a1, s0], fun y y1 y2 => ?_⟩
        have := a2 y y1 y2
        rw [src 1 (by omega) (by omega), src 2 (by omega) (by omega), src 3 (by omega) (by omega)] at this
        exact this
      · have old := e x x1 (by omega)
        have dj := hB x i x1 (by omega) i0 (by omega) hx
        unfold cpR at old ⊢
        rw [f2 (pd x) (by omega), f2 (pd x + 1) (by omega), f2 (pd x + 2) (by omega), f2 (pd x + 3) (by omega)]
        exact old
  exact loop 4 0 m1 (by omega) (by omega) (fun _ _ => rfl) (fun x x1 x2 => by omega)
theorem ru1_cp {G : Int → Int → Int → Int} {nm : Int → Int} {m m' : jM} {p p' r : Int} (hc : cpR m m' p p') (h : ru1 G nm m p r) : ru1 G nm m' p' r := by
  obtain ⟨c0, c1, c2⟩ := hc
  obtain ⟨a, b, c, ⟨d1, d2, d3⟩, e⟩ := h
  unfold ru1 ruT ruN
  rw [c0, c1]
  refine ⟨a, b, ?_, ⟨d1, fun i i1 i2 i3 => ?_, fun q q1 q2 => ?_⟩, e⟩
  · rcases c with c | ⟨w0, w1, w2, w3⟩
    · exact Or.inl c
    · exact Or.inr ⟨w0, cX_c (fun _ _ _ _ _ _ => rfl) (fun i i1 i2 => c2 i i1 (by omega)) w1, w2, w3⟩
  · have w := c2 i i1 (by omega)
    rw [w.1] at i3
    rw [w.2.1]
    exact d2 i i1 i2 i3
  · rw [d3 q q1 q2]
    refine cnr_c (fun i i1 i2 => ?_)
    have w := c2 i i1 (by omega)
    rw [w.1, w.2.1]
/-! the reference's copies -/
theorem s_copies0 {d : Nat} {n0 y0 n1 y1 a n : Int} {m : jM} {Q : Int → jM → Prop} (hy : y0 ≠ y1) (hn : 0 ≤ n ∧ n ≤ n0 ∧ n0 ≤ 1000) (ha : 0 ≤ a ∧ a + n ≤ n1 ∧ n1 ≤ 1000) (h : ∀ m' : jM, (∀ q, q ≠ y1 → m' q = m q) → (∀ x, m' y1 x = if a ≤ x ∧ x < a + n then m y0 (x - a) else m y1 x) → Q 0 m') : jK (d + 1) zX11_copies [jY 0 n0 y0, jY 0 n1 y1, jI a, jI n, jI 0] m Q := by
  have loop : ∀ (k : Nat) (i : Int) (mm : jM), 0 ≤ i → i + k = n → (∀ q, q ≠ y1 → mm q = m q) → (∀ x, mm y1 x = if a ≤ x ∧ x < a + i then m y0 (x - a) else m y1 x) → aX11_copies_3 d n0 y0 n1 y1 a n 0 i mm Q := by
    intro k
    induction k with
    | zero =>
      intro i mm i0 ik f e
      rw [show i = n by omega] at e ⊢
      exact gX11_copies_3 d n0 y0 n1 y1 a n 0 n mm Q ⟨fun q => by omega, fun _ => h mm f e⟩
    | succ k ih =>
      intro i mm i0 ik f e
      refine gX11_copies_3 d n0 y0 n1 y1 a n 0 i mm Q ⟨fun q => ⟨fun _ => ?_, fun w => absurd rfl w⟩, fun q => by omega⟩
      rw [w32_id (z := a + i) (by omega) (by omega), w32_id (z := i + 1) (by omega) (by omega)]
      refine ⟨by omega, by omega, ih (i + 1) _ (by omega) (by omega) (fun q hq => by rw [up_ne hq]; exact f q hq) (fun x => ?_)⟩
      rw [up_eq, e, f y0 hy]
      by_cases hx : x = a + i
      · rw [if_pos hx, if_pos (by omega), show x - a = i by omega]
      · rw [if_neg hx]
        by_cases hx2 : a ≤ x ∧ x < a + i
        · rw [if_pos hx2, if_pos (by omega)]
        · rw [if_neg hx2, if_neg (by omega)]
  exact gX11_copies d n0 y0 n1 y1 a n 0 m Q (loop n.toNat 0 m (by omega) (by omega) (fun _ _ => rfl) (fun x => by rw [if_neg (by omega)]))
theorem s_copies1 {d : Nat} {n0 y0 n1 y1 a n : Int} {m : jM} {Q : Int → jM → Prop} (hy : y0 ≠ y1) (hn : 0 ≤ n ∧ n ≤ n0 ∧ n0 ≤ 1000) (ha : 0 ≤ a ∧ a + n ≤ n1 ∧ n1 ≤ 1000) (h : ∀ m' : jM, (∀ q, q ≠ y0 → m' q = m q) → (∀ x : Int, 0 ≤ x → x < n → m' y0 x = m y1 (a + x)) → Q 0 m') : jK (d + 1) zX11_copies [jY 0 n0 y0, jY 0 n1 y1, jI a, jI n, jI 1] m Q := by
  have loop : ∀ (k : Nat) (i : Int) (mm : jM), 0 ≤ i → i + k = n → (∀ q, q ≠ y0 → mm q = m q) → (∀ x : Int, 0 ≤ x → x < i → mm y0 x = m y1 (a + x)) → aX11_copies_3 d n0 y0 n1 y1 a n 1 i mm Q := by
    intro k
    induction k with
    | zero =>
      intro i mm i0 ik f e
      exact gX11_copies_3 d n0 y0 n1 y1 a n 1 i mm Q ⟨fun q => by omega, fun _ => h mm f (fun x x1 x2 => e x x1 (by omega))⟩
    | succ k ih =>
      intro i mm i0 ik f e
      refine gX11_copies_3 d n0 y0 n1 y1 a n 1 i mm Q ⟨fun q => ⟨fun w => absurd w (by omega), fun _ => ?_⟩, fun q => by omega⟩
      rw [w32_id (z := a + i) (by omega) (by omega), w32_id (z := i + 1) (by omega) (by omega)]
      refine ⟨by omega, by omega, ih (i + 1) _ (by omega) (by omega) (fun q hq => by rw [up_ne hq]; exact f q hq) (fun x x1 x2 => ?_)⟩
      rw [up_eq, f y1 (Ne.symm hy)]
      by_cases hx : x = i
      · rw [if_pos hx, hx]
      · rw [if_neg hx]; exact e x x1 (by omega)
  exact gX11_copies d n0 y0 n1 y1 a n 1 m Q (loop n.toNat 0 m (by omega) (by omega) (fun _ _ => rfl) (fun x x1 x2 => by omega))
/-- what is kept is as what stands -/
def kpE (m m' : jM) : Prop := (∀ y : Int, 0 ≤ y → y < 16 → m' 149 y = m 104 y) ∧ (∀ y : Int, 0 ≤ y → y < 48 → m' 150 y = m 105 y) ∧ (∀ y : Int, 0 ≤ y → y < 64 → m' 151 y = m 106 y) ∧ (∀ y : Int, 0 ≤ y → y < 64 → m' 152 y = m 107 y) ∧ (∀ y : Int, 0 ≤ y → y < 4 → m' 153 y = m 108 y) ∧ (∀ y : Int, 0 ≤ y → y < 4 → m' 154 y = m 109 y) ∧ (∀ y : Int, 0 ≤ y → y < 16 → m' 155 y = m 110 y) ∧ ∀ e y : Int, 0 ≤ e → e < 7 → 0 ≤ y → y < 96 → m' 156 (96 * e + y) = m (111 + e) y
theorem s_keeps0 {d : Nat} {m : jM} {Q : Int → jM → Prop} (h : ∀ m' : jM, (∀ q, ¬ (149 ≤ q ∧ q ≤ 156) → m' q = m q) → kpE m m' → Q 0 m') : jK (d + 2) zX11_keeps [jO 11 103, jI 0] m Q := by
  refine gX11_keeps (d + 1) 0 m Q (s_copies0 (by omega) (by omega) (by omega) (fun m1 f1 e1 => s_copies0 (by omega) (by omega) (by omega) (fun m2 f2 e2 => s_copies0 (by omega) (by omega) (by omega) (fun m3 f3 e3 => s_copies0 (by omega) (by omega) (by omega) (fun m4 f4 e4 => s_copies0 (by omega) (by omega) (by omega) (fun m5 f5 e5 => s_copies0 (by omega) (by omega) (by omega) (fun m6 f6 e6 => s_copies0 (by omega) (by omega) (by omega) (fun m7 f7 e7 => s_copies0 (by omega) (by omega) (by omega) (fun m8 f8 e8 => ?_)))))))))
  rw [show w32 (2 * 96) = 192 by decide, show w32 (3 * 96) = 288 by decide, show w32 (4 * 96) = 384 by decide, show w32 (5 * 96) = 480 by decide, show w32 (6 * 96) = 576 by decide]
  refine s_copies0 (by omega) (by omega) (by omega) (fun m9 f9 e9 => s_copies0 (by omega) (by omega) (by omega) (fun m10 f10 e10 => s_copies0 (by omega) (by omega) (by omega) (fun m11 f11 e11 => s_copies0 (by omega) (by omega) (by omega) (fun m12 f12 e12 => s_copies0 (by omega) (by omega) (by omega) (fun m13 f13 e13 => ?_)))))
  have r6 : ∀ q, q < 149 → m6 q = m q := fun q hq => by rw [f6 q (by omega), f5 q (by omega), f4 q (by omega), f3 q (by omega), f2 q (by omega), f1 q (by omega)]
  have r12 : ∀ q, q < 149 → m7 q = m q ∧ m8 q = m q ∧ m9 q = m q ∧ m10 q = m q ∧ m11 q = m q ∧ m12 q = m q := fun q hq => by
    have a7 : m7 q = m q := by rw [f7 q (by omega)]; exact r6 q hq
    have a8 : m8 q = m q := by rw [f8 q (by omega)]; exact a7
    have a9 : m9 q = m q := by rw [f9 q (by omega)]; exact a8
    have a10 : m10 q = m q := by rw [f10 q (by omega)]; exact a9
    have a11 : m11 q = m q := by rw [f11 q (by omega)]; exact a10
    exact ⟨a7, a8, a9, a10, a11, by rw [f12 q (by omega)]; exact a11⟩
  have back : ∀ q, q ≠ 156 → m13 q = m6 q := fun q hq => by rw [f13 q hq, f12 q hq, f11 q hq, f10 q hq, f9 q hq, f8 q hq, f7 q hq]
  have r13 : ∀ q, ¬ (149 ≤ q ∧ q ≤ 156) → m13 q = m q := fun q hq => by rw [back q (by omega), f6 q (by omega), f5 q (by omega), f4 q (by omega), f3 q (by omega), f2 q (by omega), f1 q (by omega)]
  have k157 : ∀ e y : Int, 0 ≤ e → e < 7 → 0 ≤ y → y < 96 → m13 156 (96 * e + y) = m (111 + e) y := by
    intro e y e0 e6' y0 y1
    have h7 : e = 0 ∨ e = 1 ∨ e = 2 ∨ e = 3 ∨ e = 4 ∨ e = 5 ∨ e = 6 := by omega
    rcases h7 with rfl | rfl | rfl | rfl | rfl | rfl | rfl
    · rw [e13, if_neg (by omega), e12, if_neg (by omega), e11, if_neg (by omega), e10, if_neg (by omega), e9, if_neg (by omega), e8, if_neg (by omega), e7, if_pos (by omega), r6 111 (by omega), show 96 * 0 + y - 0 = y by omega]; rfl
    · rw [e13, if_neg (by omega), e12, if_neg (by omega), e11, if_neg (by omega), e10, if_neg (by omega), e9, if_neg (by omega), e8, if_pos (by omega), (r12 112 (by omega)).1, show 96 * 1 + y - 96 = y by omega]; rfl
    · rw [e13, if_neg (by omega), e12, if_neg (by omega), e11, if_neg (by omega), e10, if_neg (by omega), e9, if_pos (by omega), (r12 113 (by omega)).2.1, show 96 * 2 + y - 192 = y by omega]; rfl
    · rw [e13, if_neg (by omega), e12, if_neg (by omega), e11, if_neg (by omega), e10, if_pos (by omega), (r12 114 (by omega)).2.2.1, show 96 * 3 + y - 288 = y by omega]; rfl
    · rw [e13, if_neg (by omega), e12, if_neg (by omega), e11, if_pos (by omega), (r12 115 (by omega)).2.2.2.1, show 96 * 4 + y - 384 = y by omega]; rfl
    · rw [e13, if_neg (by omega), e12, if_pos (by omega), (r12 116 (by omega)).2.2.2.2.1, show 96 * 5 + y - 480 = y by omega]; rfl
    · rw [e13, if_pos (by omega), (r12 117 (by omega)).2.2.2.2.2, show 96 * 6 + y - 576 = y by omega]; rfl
  have loop : ∀ (k : Nat) (i : Int) (mm : jM), 0 ≤ i → i + k = 64 → (∀ q, q ≠ 151 → mm q = m13 q) → (∀ y : Int, 0 ≤ y → y < i → mm 151 y = m 106 y) → aX11_keeps_202 (d + 1) 0 i mm Q := by
    intro k
    induction k with
    | zero =>
      intro i mm i0 ik f e
      refine gX11_keeps_202 (d + 1) 0 i mm Q ⟨fun q => by omega, fun _ => h mm (fun q hq => by rw [f q (by omega)]; exact r13 q hq) ⟨fun y y1 y2 => ?_, fun y y1 y2 => ?_, fun y y1 y2 => e y y1 (by omega), fun y y1 y2 => ?_, fun y y1 y2 => ?_, fun y y1 y2 => ?_, fun y y1 y2 => ?_, fun e' y a b y1 y2 => by rw [f 156 (by omega)]; exact k157 e' y a b y1 y2⟩⟩
      · rw [f 149 (by omega), back 149 (by omega), f6 149 (by omega), f5 149 (by omega), f4 149 (by omega), f3 149 (by omega), f2 149 (by omega), e1, if_pos (by omega), Int.sub_zero]
      · rw [f 150 (by omega), back 150 (by omega), f6 150 (by omega), f5 150 (by omega), f4 150 (by omega), f3 150 (by omega), e2, if_pos (by omega), Int.sub_zero, f1 105 (by omega)]
      · rw [f 152 (by omega), back 152 (by omega), f6 152 (by omega), f5 152 (by omega), f4 152 (by omega), e3, if_pos (by omega), Int.sub_zero, f2 107 (by omega), f1 107 (by omega)]
      · rw [f 153 (by omega), back 153 (by omega), f6 153 (by omega), f5 153 (by omega), e4, if_pos (by omega), Int.sub_zero, f3 108 (by omega), f2 108 (by omega), f1 108 (by omega)]
      · rw [f 154 (by omega), back 154 (by omega), f6 154 (by omega), e5, if_pos (by omega), Int.sub_zero, f4 109 (by omega), f3 109 (by omega), f2 109 (by omega), f1 109 (by omega)]
      · rw [f 155 (by omega), back 155 (by omega), e6, if_pos (by omega), Int.sub_zero, f5 110 (by omega), f4 110 (by omega), f3 110 (by omega), f2 110 (by omega), f1 110 (by omega)]
    | succ k ih =>
      intro i mm i0 ik f e
      refine gX11_keeps_202 (d + 1) 0 i mm Q ⟨fun q => ⟨fun _ => ⟨by omega, by omega, ?_⟩, fun w => absurd rfl w⟩, fun q => by omega⟩
      rw [w32_id (by omega) (by omega), f 106 (by omega), r13 106 (by omega)]
      refine ih (i + 1) _ (by omega) (by omega) (fun q hq => by rw [up_ne hq]; exact f q hq) (fun y y1 y2 => ?_)
      rw [up_eq]
      by_cases hy : y = i
      · rw [if_pos hy, hy]
      · rw [if_neg hy]; exact e y y1 (by omega)
  exact loop 64 0 m13 (by omega) (by omega) (fun _ _ => rfl) (fun y y1 y2 => by omega)
/-- what stands is as what is kept -/
def kpB (m m' : jM) : Prop := (∀ y : Int, 0 ≤ y → y < 16 → m' 104 y = m 149 y) ∧ (∀ y : Int, 0 ≤ y → y < 48 → m' 105 y = m 150 y) ∧ (∀ y : Int, 0 ≤ y → y < 64 → m' 106 y = m 151 y) ∧ (∀ y : Int, 0 ≤ y → y < 64 → m' 107 y = m 152 y) ∧ (∀ y : Int, 0 ≤ y → y < 4 → m' 108 y = m 153 y) ∧ (∀ y : Int, 0 ≤ y → y < 4 → m' 109 y = m 154 y) ∧ (∀ y : Int, 0 ≤ y → y < 16 → m' 110 y = m 155 y) ∧ ∀ e y : Int, 0 ≤ e → e < 7 → 0 ≤ y → y < 96 → m' (111 + e) y = m 156 (96 * e + y)
theorem s_keeps1 {d : Nat} {m : jM} {Q : Int → jM → Prop} (h : ∀ m' : jM, (∀ q, ¬ (104 ≤ q ∧ q ≤ 117) → m' q = m q) → kpB m m' → Q 0 m') : jK (d + 2) zX11_keeps [jO 11 103, jI 1] m Q := by
  refine gX11_keeps (d + 1) 1 m Q (s_copies1 (by omega) (by omega) (by omega) (fun m1 f1 e1 => s_copies1 (by omega) (by omega) (by omega) (fun m2 f2 e2 => s_copies1 (by omega) (by omega) (by omega) (fun m3 f3 e3 => s_copies1 (by omega) (by omega) (by omega) (fun m4 f4 e4 => s_copies1 (by omega) (by omega) (by omega) (fun m5 f5 e5 => s_copies1 (by omega) (by omega) (by omega) (fun m6 f6 e6 => s_copies1 (by omega) (by omega) (by omega) (fun m7 f7 e7 => s_copies1 (by omega) (by omega) (by omega) (fun m8 f8 e8 => ?_)))))))))
  rw [show w32 (2 * 96) = 192 by decide, show w32 (3 * 96) = 288 by decide, show w32 (4 * 96) = 384 by decide, show w32 (5 * 96) = 480 by decide, show w32 (6 * 96) = 576 by decide]
  refine s_copies1 (by omega) (by omega) (by omega) (fun m9 f9 e9 => s_copies1 (by omega) (by omega) (by omega) (fun m10 f10 e10 => s_copies1 (by omega) (by omega) (by omega) (fun m11 f11 e11 => s_copies1 (by omega) (by omega) (by omega) (fun m12 f12 e12 => s_copies1 (by omega) (by omega) (by omega) (fun m13 f13 e13 => ?_)))))
  have z1 : ∀ q, 118 ≤ q → m1 q = m q ∧ m2 q = m q ∧ m3 q = m q ∧ m4 q = m q ∧ m5 q = m q ∧ m6 q = m q := fun q hq => by
    have a1 : m1 q = m q := f1 q (by omega)
    have a2 : m2 q = m q := by rw [f2 q (by omega)]; exact a1
    have a3 : m3 q = m q := by rw [f3 q (by omega)]; exact a2
    have a4 : m4 q = m q := by rw [f4 q (by omega)]; exact a3
    have a5 : m5 q = m q := by rw [f5 q (by omega)]; exact a4
    exact ⟨a1, a2, a3, a4, a5, by rw [f6 q (by omega)]; exact a5⟩
  have z2 : ∀ q, 118 ≤ q → m7 q = m q ∧ m8 q = m q ∧ m9 q = m q ∧ m10 q = m q ∧ m11 q = m q ∧ m12 q = m q := fun q hq => by
    have a7 : m7 q = m q := by rw [f7 q (by omega)]; exact (z1 q hq).2.2.2.2.2
    have a8 : m8 q = m q := by rw [f8 q (by omega)]; exact a7
    have a9 : m9 q = m q := by rw [f9 q (by omega)]; exact a8
    have a10 : m10 q = m q := by rw [f10 q (by omega)]; exact a9
    have a11 : m11 q = m q := by rw [f11 q (by omega)]; exact a10
    exact ⟨a7, a8, a9, a10, a11, by rw [f12 q (by omega)]; exact a11⟩
  have r13 : ∀ q, ¬ (104 ≤ q ∧ q ≤ 117) → m13 q = m q := fun q hq => by rw [f13 q (by omega), f12 q (by omega), f11 q (by omega), f10 q (by omega), f9 q (by omega), f8 q (by omega), f7 q (by omega), f6 q (by omega), f5 q (by omega), f4 q (by omega), f3 q (by omega), f2 q (by omega), f1 q (by omega)]
  have hi : ∀ q, q < 111 → m13 q = m6 q := fun q hq => by rw [f13 q (by omega), f12 q (by omega), f11 q (by omega), f10 q (by omega), f9 q (by omega), f8 q (by omega), f7 q (by omega)]
  have k157 : ∀ e y : Int, 0 ≤ e → e < 7 → 0 ≤ y → y < 96 → m13 (111 + e) y = m 156 (96 * e + y) := by
    intro e y e0 e6' y0 y1
    have h7 : e = 0 ∨ e = 1 ∨ e = 2 ∨ e = 3 ∨ e = 4 ∨ e = 5 ∨ e = 6 := by omega
    rcases h7 with rfl | rfl | rfl | rfl | rfl | rfl | rfl
    · rw [f13 _ (by omega), f12 _ (by omega), f11 _ (by omega), f10 _ (by omega), f9 _ (by omega), f8 _ (by omega)]
      exact (e7 y y0 y1).trans (by rw [(z1 156 (by omega)).2.2.2.2.2, show 96 * 0 + y = 0 + y by omega])
    · rw [f13 _ (by omega), f12 _ (by omega), f11 _ (by omega), f10 _ (by omega), f9 _ (by omega)]
      exact (e8 y y0 y1).trans (by rw [(z2 156 (by omega)).1, show 96 * 1 + y = 96 + y by omega])
    · rw [f13 _ (by omega), f12 _ (by omega), f11 _ (by omega), f10 _ (by omega)]
      exact (e9 y y0 y1).trans (by rw [(z2 156 (by omega)).2.1, show 96 * 2 + y = 192 + y by omega])
    · rw [f13 _ (by omega), f12 _ (by omega), f11 _ (by omega)]
      exact (e10 y y0 y1).trans (by rw [(z2 156 (by omega)).2.2.1, show 96 * 3 + y = 288 + y by omega])
    · rw [f13 _ (by omega), f12 _ (by omega)]
      exact (e11 y y0 y1).trans (by rw [(z2 156 (by omega)).2.2.2.1, show 96 * 4 + y = 384 + y by omega])
    · rw [f13 _ (by omega)]
      exact (e12 y y0 y1).trans (by rw [(z2 156 (by omega)).2.2.2.2.1, show 96 * 5 + y = 480 + y by omega])
    · exact (e13 y y0 y1).trans (by rw [(z2 156 (by omega)).2.2.2.2.2, show 96 * 6 + y = 576 + y by omega])
  have loop : ∀ (k : Nat) (i : Int) (mm : jM), 0 ≤ i → i + k = 64 → (∀ q, q ≠ 106 → mm q = m13 q) → (∀ y : Int, 0 ≤ y → y < i → mm 106 y = m 151 y) → aX11_keeps_202 (d + 1) 1 i mm Q := by
    intro k
    induction k with
    | zero =>
      intro i mm i0 ik f e
      refine gX11_keeps_202 (d + 1) 1 i mm Q ⟨fun q => by omega, fun _ => h mm (fun q hq => by rw [f q (by omega)]; exact r13 q hq) ⟨fun y y1 y2 => ?_, fun y y1 y2 => ?_, fun y y1 y2 => e y y1 (by omega), fun y y1 y2 => ?_, fun y y1 y2 => ?_, fun y y1 y2 => ?_, fun y y1 y2 => ?_, fun e' y a b y1 y2 => by rw [f _ (by omega)]; exact k157 e' y a b y1 y2⟩⟩
      · rw [f 104 (by omega), hi 104 (by omega), f6 104 (by omega), f5 104 (by omega), f4 104 (by omega), f3 104 (by omega), f2 104 (by omega), e1 y y1 y2, Int.zero_add]
      · rw [f 105 (by omega), hi 105 (by omega), f6 105 (by omega), f5 105 (by omega), f4 105 (by omega), f3 105 (by omega), e2 y y1 y2, Int.zero_add, (z1 150 (by omega)).1]
      · rw [f 107 (by omega), hi 107 (by omega), f6 107 (by omega), f5 107 (by omega), f4 107 (by omega), e3 y y1 y2, Int.zero_add, (z1 152 (by omega)).2.1]
      · rw [f 108 (by omega), hi 108 (by omega), f6 108 (by omega), f5 108 (by omega), e4 y y1 y2, Int.zero_add, (z1 153 (by omega)).2.2.1]
      · rw [f 109 (by omega), hi 109 (by omega), f6 109 (by omega), e5 y y1 y2, Int.zero_add, (z1 154 (by omega)).2.2.2.1]
      · rw [f 110 (by omega), hi 110 (by omega), e6 y y1 y2, Int.zero_add, (z1 155 (by omega)).2.2.2.2.1]
    | succ k ih =>
      intro i mm i0 ik f e
      refine gX11_keeps_202 (d + 1) 1 i mm Q ⟨fun q => ⟨fun w => absurd w (by omega), fun _ => ⟨by omega, by omega, ?_⟩⟩, fun q => by omega⟩
      rw [w32_id (by omega) (by omega), f 151 (by omega), r13 151 (by omega)]
      refine ih (i + 1) _ (by omega) (by omega) (fun q hq => by rw [up_ne hq]; exact f q hq) (fun y y1 y2 => ?_)
      rw [up_eq]
      by_cases hy : y = i
      · rw [if_pos hy, hy]
      · rw [if_neg hy]; exact e y y1 (by omega)
  exact loop 64 0 m13 (by omega) (by omega) (fun _ _ => rfl) (fun y y1 y2 => by omega)

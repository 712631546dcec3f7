/-! leaves within their ranges; a text is well formed -/
def lfOk (R : jM) (j : Int) : Prop := (R 2 j = 0 → 0 ≤ R 3 j ∧ R 3 j ≤ 9999) ∧ (R 2 j = 1 → 0 ≤ R 3 j ∧ R 3 j < 6) ∧ (R 2 j = 2 → 0 ≤ R 3 j ∧ R 3 j < 4)
theorem lf_no {R : jM} {j : Int} (h : R 2 j < 0 ∨ 2 < R 2 j) : lfOk R j := ⟨fun g => by omega, fun g => by omega, fun g => by omega⟩
theorem cT_lf {R : jM} {so sa sp : Int → Int} {lo' hi' : Int} (N : Nat) : ∀ {n n' : Nat} {lo hi a b k : Int}, n ≤ N → uT R n lo hi k → cT R so sa sp lo' hi' n' a b k → ∀ j, lo ≤ j → j < hi → lfOk R j := by
  induction N with
  | zero => intro n n' lo hi a b k hn h; rw [show n = 0 by omega] at h; exact h.elim
  | succ N ih =>
    intro n n' lo hi a b k hn hu hc j j1 j2
    cases n with
    | zero => exact hu.elim
    | succ n =>
    cases n' with
    | zero => exact hc.elim
    | succ n' =>
    obtain ⟨⟨k1, k2⟩, hu⟩ := hu
    obtain ⟨_, hc⟩ := hc
    rcases hu with ⟨h, h1, h2⟩ | ⟨h, h1, h2⟩ | ⟨h, h1, h2⟩ | ⟨h, h1, z, h2, h3⟩ | ⟨h, y, z, h1, h2, h3, h4⟩
    · have ej : j = k := by omega
      subst ej
      rcases hc with ⟨c, c1, c2, c3, c4⟩ | ⟨c, c1, c2, c3⟩ | ⟨c, c1, c2, c3, c4⟩ | ⟨c, _⟩ | ⟨c, _⟩ | ⟨c, _⟩ | ⟨c, _⟩
      · exact ⟨fun _ => c4, fun g => by omega, fun g => by omega⟩
      · exact ⟨fun g => by omega, fun _ => c3, fun g => by omega⟩
      · exact ⟨fun g => by omega, fun g => by omega, fun _ => c4⟩
      all_goals exfalso; omega
    · by_cases hj : j = k
      · rw [hj]; exact lf_no (by omega)
      rcases hc with ⟨c, _⟩ | ⟨c, _⟩ | ⟨c, _⟩ | ⟨c, hc⟩ | ⟨c, hc, c2⟩ | ⟨c, _⟩ | ⟨c, _⟩
      case inr.inr.inr.inl =>
        rcases hc with ⟨c1, c2⟩ | ⟨c0, c1, c2⟩
        · exact ih (by omega) h2 c1 j (by omega) j2
        · cases n with
          | zero => exact h2.elim
          | succ n =>
          obtain ⟨_, h2⟩ := h2
          rcases h2 with ⟨g, _⟩ | ⟨g, g1, g2⟩ | ⟨g, _⟩ | ⟨g, _⟩ | ⟨g, _⟩
          case inr.inl =>
            by_cases hj2 : j = R 4 k
            · rw [hj2]; exact lf_no (by omega)
            · exact ih (by omega) g2 c2 j (by omega) j2
          all_goals exfalso; omega
      case inr.inr.inr.inr.inl => exact ih (by omega) h2 hc j (by omega) j2
      all_goals exfalso; omega
    · rcases hc with ⟨c, _⟩ | ⟨c, _⟩ | ⟨c, _⟩ | ⟨c, _⟩ | ⟨c, _⟩ | ⟨c, z, c1, c2, c3, _⟩ | ⟨c, _⟩
      case inr.inr.inr.inr.inr.inl =>
        by_cases hj : j = k
        · rw [hj]; exact lf_no (by omega)
        by_cases hj2 : j < k
        · exact ih (by omega) h1 c1 j j1 hj2
        · exact ih (by omega) h2 c2 j (by omega) j2
      all_goals exfalso; omega
    · rcases hc with ⟨c, _⟩ | ⟨c, _⟩ | ⟨c, _⟩ | ⟨c, _⟩ | ⟨c, _⟩ | ⟨c, y, c1, c2, c3, _⟩ | ⟨c, _⟩
      case inr.inr.inr.inr.inr.inl =>
        by_cases hj : j = k
        · rw [hj]; exact lf_no (by omega)
        by_cases hj2 : j < z
        · exact ih (by omega) h2 c1 j (by omega) hj2
        · exact ih (by omega) h3 c2 j (by omega) j2
      all_goals exfalso; omega
    · rcases hc with ⟨c, _⟩ | ⟨c, _⟩ | ⟨c, _⟩ | ⟨c, _⟩ | ⟨c, _⟩ | ⟨c, _⟩ | ⟨c, x1, y1, z1, c1, c2, c3, _, c4, c5, _, c6⟩
      case inr.inr.inr.inr.inr.inr =>
        by_cases hj : j = k
        · rw [hj]; exact lf_no (by omega)
        by_cases hj2 : j < k
        · exact ih (by omega) h1 c1 j (by omega) hj2
        by_cases hj3 : j < y
        · exact ih (by omega) h2 c2 j (by omega) hj3
        by_cases hj4 : j < z
        · exact ih (by omega) h3 c4 j (by omega) hj4
        · exact ih (by omega) h4 c6 j (by omega) j2
      all_goals exfalso; omega
/-- a step that names a rule names one of the four -/
theorem cT_arg {R : jM} {so sa sp : Int → Int} {lo hi : Int} (n : Nat) : ∀ {a b k : Int}, cT R so sa sp lo hi n a b k → ∀ i, a ≤ i → i < b → so i = 4 → 0 ≤ sa i ∧ sa i < 4 := by
  induction n with
  | zero => intro a b k h; exact h.elim
  | succ n ih =>
    intro a b k hc i i1 i2 hi
    obtain ⟨_, hc⟩ := hc
    rcases hc with ⟨c, c1, c2, c3, c4⟩ | ⟨c, c1, c2, c3⟩ | ⟨c, c1, c2, c3, c4⟩ | ⟨c, hc⟩ | ⟨c, hc, c2⟩ | ⟨c, z, c1, c2, c3, _⟩ | ⟨c, x, y, z, c1, c2, c3, _, c4, c5, _, c6⟩
    · rw [show i = a by omega] at hi; omega
    · rw [show i = a by omega] at hi; omega
    · rw [show i = a by omega, c3]; exact c4
    · rcases hc with ⟨c1, c2⟩ | ⟨_, _, c2⟩
      · by_cases g : i = b - 1
        · rw [g] at hi; omega
        · exact ih c1 i i1 (by omega) hi
      · exact ih c2 i i1 i2 hi
    · by_cases g : i = b - 1
      · rw [g] at hi; omega
      · exact ih hc i i1 (by omega) hi
    · by_cases g : i = b - 1
      · rw [g, c3] at hi; unfold cop at hi; split at hi <;> omega
      · by_cases g2 : i < z
        · exact ih c1 i i1 g2 hi
        · exact ih c2 i (by omega) (by omega) hi
    · by_cases g : i = y
      · rw [g] at hi; omega
      by_cases g2 : i = z
      · rw [g2] at hi; omega
      by_cases g3 : i < x
      · exact ih c1 i i1 g3 hi
      by_cases g4 : i < y
      · exact ih c2 i (by omega) g4 hi
      by_cases g5 : i < z
      · exact ih c4 i (by omega) g5 hi
      · exact ih c6 i (by omega) i2 hi
theorem wf_of {G : Int → Int → Int → Int} {n0 : Nat} {r P : Int} (hP : P = G r 0 0 ∧ P ≤ 24) (hl : ∀ j, 0 ≤ j → j < P → lfOk (fun f k => G r f k) j) (hn : ∀ q : Int, 0 ≤ q → q < 4 → gNm G r q → G q 0 0 = 0 ∨ wf G n0 q (G q 1 0)) (n : Nat) : ∀ {lo hi k : Int}, 0 ≤ lo → hi ≤ P → uT (fun f k => G r f k) n lo hi k → wf G (n + n0) r k := by
  induction n with
  | zero => intro lo hi k _ _ h; exact h.elim
  | succ n ih =>
    intro lo hi k h0 hh hu
    obtain ⟨⟨k1, k2⟩, hu⟩ := hu
    have hlk := hl k (by omega) (by omega)
    rw [show n + 1 + n0 = (n + n0) + 1 by omega]
    refine ⟨⟨by omega, by omega, by omega⟩, ?_⟩
    rcases hu with ⟨h, h1, h2⟩ | ⟨h, h1, h2⟩ | ⟨h, h1, h2⟩ | ⟨h, h1, z, h2, h3⟩ | ⟨h, y, z, h1, h2, h3, h4⟩
    · rcases h with h | h | h
      · exact Or.inl ⟨h, hlk.1 h⟩
      · exact Or.inr (Or.inl ⟨h, hlk.2.1 h⟩)
      · have hq := hlk.2.2 h
        refine Or.inr (Or.inr (Or.inl ⟨h, hq, ?_⟩))
        rcases hn (G r 3 k) hq.1 hq.2 ⟨k, by omega, by omega, h, rfl⟩ with w | w
        · exact Or.inl w
        · exact Or.inr (wf_le (by omega) w)
    · have l2 := uT_lt h2
      exact Or.inr (Or.inr (Or.inr (Or.inl ⟨h, ih (by omega) hh h2⟩)))
    · have l1 := uT_lt h1
      have l2 := uT_lt h2
      exact Or.inr (Or.inr (Or.inr (Or.inr (Or.inl ⟨Or.inl h, ih h0 (by omega) h1, ih (by omega) hh h2⟩))))
    · have l2 := uT_lt h2
      have l3 := uT_lt h3
      exact Or.inr (Or.inr (Or.inr (Or.inr (Or.inl ⟨Or.inr h, ih (by omega) (by omega) h2, ih (by omega) hh h3⟩))))
    · have l1 := uT_lt h1
      have l2 := uT_lt h2
      have l3 := uT_lt h3
      have l4 := uT_lt h4
      exact Or.inr (Or.inr (Or.inr (Or.inr (Or.inr ⟨h, ih h0 (by omega) h1, ih (by omega) (by omega) h2, ih (by omega) (by omega) h3, ih (by omega) hh h4⟩))))
theorem cnr_nn {P : Int → Bool} {a b : Int} : 0 ≤ cnr P a b := by
  have : ∀ (n : Nat) (a : Int), 0 ≤ cnt P n a := by
    intro n
    induction n with
    | zero => intro a; exact Int.le_refl 0
    | succ n ih =>
      intro a
      have := ih (a + 1)
      show 0 ≤ (if P a = true then 1 else 0) + cnt P n (a + 1)
      split <;> omega
  exact this _ _
theorem cnr_pos {P : Int → Bool} {a b : Int} : 0 < cnr P a b ↔ ∃ i, a ≤ i ∧ i < b ∧ P i = true := by
  constructor
  · intro h
    have : ∀ (n : Nat) (a : Int), 0 < cnt P n a → ∃ i, a ≤ i ∧ i < a + n ∧ P i = true := by
      intro n
      induction n with
      | zero => intro a h; exact absurd h (Int.lt_irrefl 0)
      | succ n ih =>
        intro a h
        change 0 < (if P a = true then 1 else 0) + cnt P n (a + 1) at h
        by_cases g : P a = true
        · exact ⟨a, by omega, by omega, g⟩
        · rw [if_neg g] at h
          obtain ⟨i, i1, i2, i3⟩ := ih (a + 1) (by omega)
          exact ⟨i, by omega, by omega, i3⟩
    obtain ⟨i, i1, i2, i3⟩ := this _ _ h
    by_cases g : a < b
    · exact ⟨i, i1, by omega, i3⟩
    · exact absurd h (by rw [cnr_0 (by omega)]; omega)
  · rintro ⟨i, i1, i2, i3⟩
    rw [cnr_j (b := i) i1 (by omega), cnr_s i2, if_pos i3]
    have := @cnr_nn P a i
    have := @cnr_nn P (i + 1) b
    omega
/-- one rule: its cell p in the class, its text in G, whom it names in nm -/
def ruN (nm : Int → Int) (m : jM) (p r : Int) : Prop := (0 ≤ m p 1 ∧ m p 1 ≤ 40) ∧ (∀ i : Int, 0 ≤ i → i < m p 1 → m (p + 1) i = 4 → 0 ≤ m (p + 2) i ∧ m (p + 2) i < 4) ∧ ∀ q : Int, 0 ≤ q → q < 4 → nm (4 * r + q) = cnr (fun i => decide (m (p + 1) i = 4 ∧ m (p + 2) i = q)) 0 (m p 1)
def ruT (G : Int → Int → Int → Int) (m : jM) (p r : Int) : Prop := cX (fun f k => G r f k) (m (p + 1)) (m (p + 2)) (m (p + 3)) 0 (G r 0 0) 0 (m p 1) (G r 1 0) ∧ uX (fun f k => G r f k) 0 (G r 0 0) (G r 1 0) ∧ ∀ j, 0 ≤ j → j < G r 0 0 → lfOk (fun f k => G r f k) j
def ru1 (G : Int → Int → Int → Int) (nm : Int → Int) (m : jM) (p r : Int) : Prop := m p 0 = G r 0 0 ∧ (0 ≤ G r 0 0 ∧ G r 0 0 ≤ 24) ∧ ((G r 0 0 = 0 ∧ m p 1 = 0) ∨ (G r 0 0 ≠ 0 ∧ ruT G m p r)) ∧ ruN nm m p r ∧ ∀ q : Int, 0 ≤ q → q < 4 → nm (4 * r + q) = cnr (fun k => decide (G r 2 k = 2 ∧ G r 3 k = q)) 0 (G r 0 0)
/-- ranks: whom a rule names is of a lower one -/
def rkO (nm rk : Int → Int) : Prop := (∀ r : Int, 0 ≤ r → r < 4 → 0 ≤ rk r ∧ rk r ≤ 3) ∧ ∀ r q : Int, 0 ≤ r → r < 4 → 0 ≤ q → q < 4 → 0 < nm (4 * r + q) → rk q < rk r
def rul (pr : Int → Int) (G : Int → Int → Int → Int) (nm rk : Int → Int) (m : jM) : Prop := rkO nm rk ∧ ∀ r : Int, 0 ≤ r → r < 4 → ru1 G nm m (pr r) r
theorem rul_rk {pr : Int → Int} {G : Int → Int → Int → Int} {nm rk : Int → Int} {m : jM} (h : rul pr G nm rk m) : gRk G rk := by
  refine ⟨h.1.1, fun r q r1 r2 q1 q2 hg => h.1.2 r q r1 r2 q1 q2 ?_⟩
  obtain ⟨k, k1, k2, k3, k4⟩ := hg
  obtain ⟨_, _, _, _, hn⟩ := h.2 r r1 r2
  rw [hn q q1 q2, cnr_pos]
  exact ⟨k, k1, k2, by rw [decide_eq_true_eq]; exact ⟨k3, k4⟩⟩
theorem rul_wf {pr : Int → Int} {G : Int → Int → Int → Int} {nm rk : Int → Int} {m : jM} (h : rul pr G nm rk m) (n : Nat) : ∀ r : Int, 0 ≤ r → r < 4 → rk r ≤ n → G r 0 0 = 0 ∨ wf G (24 * (n + 1)) r (G r 1 0) := by
  have hk := rul_rk h
  have one : ∀ (n0 : Nat) (r : Int), 0 ≤ r → r < 4 → (∀ q : Int, 0 ≤ q → q < 4 → gNm G r q → G q 0 0 = 0 ∨ wf G n0 q (G q 1 0)) → G r 0 0 = 0 ∨ wf G (24 + n0) r (G r 1 0) := by
    intro n0 r r1 r2 hn
    obtain ⟨_, b, c, _, _⟩ := h.2 r r1 r2
    rcases c with c | ⟨_, _, c2, c3⟩
    · exact Or.inl c.1
    · exact Or.inr (wf_of ⟨rfl, b.2⟩ c3 hn 24 (Int.le_refl 0) (Int.le_refl _) (c2 24 (by omega)))
  induction n with
  | zero =>
    intro r r1 r2 hr
    exact one 0 r r1 r2 (fun q q1 q2 hg => by have := hk.2 r q r1 r2 q1 q2 hg; have := hk.1 q q1 q2; omega)
  | succ n ih =>
    intro r r1 r2 hr
    have := one (24 * (n + 1)) r r1 r2 (fun q q1 q2 hg => ih q q1 q2 (by have := hk.2 r q r1 r2 q1 q2 hg; omega))
    rw [show 24 * (n + 1 + 1) = 24 + 24 * (n + 1) by omega]
    exact this
theorem rul_w {pr : Int → Int} {G : Int → Int → Int → Int} {nm rk : Int → Int} {m : jM} (h : rul pr G nm rk m) {r : Int} (r1 : 0 ≤ r) (r2 : r < 4) : G r 0 0 = 0 ∨ wf G 100 r (G r 1 0) := by
  rcases rul_wf h 3 r r1 r2 (h.1.1 r r1 r2).2 with g | g
  · exact Or.inl g
  · exact Or.inr (wf_le (by omega) g)
theorem rul_cOk {G : Int → Int → Int → Int} {nm rk : Int → Int} {m : jM} (h : rul (m 5) G nm rk m) (hp : ∀ q : Int, 0 ≤ q → q < 4 → 1 ≤ m 5 q ∧ m 5 q < 48) (ht : tbd (m 2)) : cOk G rk m := by
  refine ⟨rul_rk h, ht, fun q q1 q2 => ⟨hp q q1 q2, ?_, (h.2 q q1 q2).2.1.2⟩⟩
  obtain ⟨a, b, c, d, e⟩ := h.2 q q1 q2
  refine ⟨a, d.1, ?_⟩
  rcases c with c | ⟨c0, c1, c2, c3⟩
  · exact Or.inl c
  · refine Or.inr ⟨c0, cT_cS 100 (c1 100 (by omega)), ?_⟩
    rcases rul_w h q1 q2 with g | g
    · exact absurd g c0
    · exact g

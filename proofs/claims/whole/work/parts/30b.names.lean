/-! whom a rule names, comes to name -/
def nmk (nm : Int → Int) (r : Int) : Int := mkf (fun q => decide (0 < nm (4 * r + q))) 4
theorem mkf_s (f : Int → Bool) {i : Int} (h : 0 ≤ i) : mkf f (i + 1).toNat = if f i = true then iOr (mkf f i.toNat) (iShl 1 i) else mkf f i.toNat := by
  obtain ⟨n, rfl⟩ : ∃ n : Nat, i = n := ⟨i.toNat, by omega⟩
  rw [show ((n : Int) + 1).toNat = n + 1 by omega, show ((n : Int)).toNat = n by omega]
  rfl
theorem nmk_ok (nm : Int → Int) (r : Int) : mk8 (nmk nm r) ∧ ∀ j : Int, 0 ≤ j → j < 8 → (bt (nmk nm r) j = true ↔ j < 4 ∧ 0 < nm (4 * r + j)) := by
  obtain ⟨a, b⟩ := mkf_ok (fun q => decide (0 < nm (4 * r + q))) 4 (by omega)
  refine ⟨a, fun j j1 j2 => ?_⟩
  unfold nmk
  rw [b j j1 j2, decide_eq_true_eq]
  exact Iff.rfl
theorem s_namesR {d : Nat} {r : Int} {m : jM} {Q : Int → jM → Prop} (hr : 0 ≤ r ∧ r < 4) (h : Q (nmk (m 110) r) m) : jK (d + 1) zX11_names [jO 11 103, jI r] m Q := by
  have loop : ∀ (k : Nat) (i : Int), 0 ≤ i → i + k = 4 → aX11_names_4 d r (mkf (fun q => decide (0 < m 110 (4 * r + q))) i.toNat) i m Q := by
    intro k
    induction k with
    | zero =>
      intro i h0 hi
      refine gX11_names_4 d r _ i m Q ⟨fun q => by omega, fun _ => ?_⟩
      rw [show i = 4 by omega]
      exact h
    | succ k ih =>
      intro i h0 hi
      have e : w32 (w32 (4 * r) + i) = 4 * r + i := by rw [w32_id (z := 4 * r) (by omega) (by omega), w32_id (by omega) (by omega)]
      have n := ih (i + 1) (by omega) (by omega)
      rw [mkf_s _ h0] at n
      refine gX11_names_4 d r _ i m Q ⟨fun q => ?_, fun q => by omega⟩
      rw [e, w32_id (z := i + 1) (by omega) (by omega)]
      refine ⟨by omega, fun g => ?_, fun g => ?_⟩
      · rw [if_pos (by rw [decide_eq_true_eq]; exact g)] at n; exact n
      · rw [if_neg (by rw [decide_eq_true_eq]; exact g)] at n; exact n
  refine gX11_names d r m Q ?_
  exact loop 4 0 (by omega) (by omega)
theorem s_namesC {d : Nat} {nm : Int → Int} {p r : Int} {m : jM} {Q : Int → jM → Prop} (hn : ruN nm m p r) (h : Q (nmk nm r) m) : jK (d + 1) zX6_names [jO 6 p] m Q := by
  obtain ⟨n1, n2, n3⟩ := hn
  obtain ⟨k1, k2⟩ := nmk_ok nm r
  have loop : ∀ (k : Nat) (i x : Int), 0 ≤ i → i + k = m p 1 → mk8 x → (∀ j : Int, 0 ≤ j → j < 8 → (bt x j = true ↔ ∃ y, 0 ≤ y ∧ y < i ∧ m (p + 1) y = 4 ∧ m (p + 2) y = j)) → aX6_names_4 d p x i m Q := by
    intro k
    induction k with
    | zero =>
      intro i x h0 hi hx hb
      refine gX6_names_4 d p x i m Q ⟨fun q => by omega, fun _ => ?_⟩
      have ex : x = nmk nm r := by
        refine mk_ext hx k1 (fun j j1 j2 => bool_eq ?_)
        rw [hb j j1 j2, k2 j j1 j2]
        constructor
        · rintro ⟨y, y1, y2, y3, y4⟩
          have := n2 y y1 (by omega) y3
          refine ⟨by omega, ?_⟩
          rw [n3 j j1 (by omega), cnr_pos]
          exact ⟨y, y1, by omega, by rw [decide_eq_true_eq]; exact ⟨y3, y4⟩⟩
        · rintro ⟨g1, g2⟩
          rw [n3 j j1 g1, cnr_pos] at g2
          obtain ⟨y, y1, y2, y3⟩ := g2
          rw [decide_eq_true_eq] at y3
          exact ⟨y, y1, by omega, y3.1, y3.2⟩
      rw [ex]
      exact h
    | succ k ih =>
      intro i x h0 hi hx hb
      refine gX6_names_4 d p x i m Q ⟨fun q => ⟨by omega, fun g => ⟨by omega, ?_⟩, fun g => ?_⟩, fun q => by omega⟩ <;> rw [w32_id (by omega) (by omega)]
      · have ha := n2 i h0 q g
        refine ih (i + 1) _ (by omega) (by omega) (mk_or1 hx (by omega)) (fun j j1 j2 => ?_)
        rw [bt_or1 (by omega) ⟨j1, j2⟩, hb j j1 j2]
        constructor
        · rintro (⟨y, y1, y2, y3⟩ | g2)
          · exact ⟨y, y1, by omega, y3⟩
          · exact ⟨i, h0, by omega, g, g2.symm⟩
        · rintro ⟨y, y1, y2, y3, y4⟩
          by_cases hy : y = i
          · right; rw [← hy, y4]
          · left; exact ⟨y, y1, by omega, y3, y4⟩
      · refine ih (i + 1) _ (by omega) (by omega) hx (fun j j1 j2 => ?_)
        rw [hb j j1 j2]
        constructor
        · rintro ⟨y, y1, y2, y3⟩
          exact ⟨y, y1, by omega, y3⟩
        · rintro ⟨y, y1, y2, y3, y4⟩
          by_cases hy : y = i
          · rw [hy] at y3; exact absurd y3 g
          · exact ⟨y, y1, by omega, y3, y4⟩
  refine gX6_names d p m Q ?_
  refine loop (m p 1).toNat 0 0 (by omega) (by omega) mk_0 (fun j j1 j2 => ?_)
  rw [bt_0]
  exact ⟨(fun g => by cases g), fun ⟨y, y1, y2, _⟩ => by omega⟩
/-! all that a rule comes to name: four times over -/
def ctS (N : Int → Int) (x i : Int) : Int := if bt x i = true then iOr x (N i) else x
def ctR (N : Int → Int) : Nat → Int → Int → Int
  | 0, _, x => x
  | n + 1, i, x => ctR N n (i + 1) (ctS N x i)
def ctQ (N : Int → Int) : Nat → Int → Int
  | 0, x => x
  | n + 1, x => ctQ N n (ctR N 4 0 x)
def cto (N : Int → Int) (r : Int) : Int := ctQ N 4 (N r)
theorem s_comesTo {d : Nat} {r : Int} {m : jM} {Q : Int → jM → Prop} (hr : 0 ≤ r ∧ r < 4) (h : Q (cto (nmk (m 110)) r) m) : jK (d + 2) zX11_comesTo [jO 11 103, jI r] m Q := by
  have l2 : ∀ (k : Nat) (i x a : Int), 0 ≤ i → i + k = 4 → aX11_comesTo_8 (d + 1) (ctR (nmk (m 110)) k i x) (w32 (a + 1)) m Q → aX11_comesTo_16 (d + 1) x a i m Q := by
    intro k
    induction k with
    | zero =>
      intro i x a h0 hi hq
      exact gX11_comesTo_16 (d + 1) x a i m Q ⟨fun q => by omega, fun _ => hq⟩
    | succ k ih =>
      intro i x a h0 hi hq
      have hq' : aX11_comesTo_8 (d + 1) (ctR (nmk (m 110)) k (i + 1) (ctS (nmk (m 110)) x i)) (w32 (a + 1)) m Q := hq
      have n := ih (i + 1) _ a (by omega) (by omega) hq'
      refine gX11_comesTo_16 (d + 1) x a i m Q ⟨fun q => ⟨fun g => s_namesR (by omega) ?_, fun g => ?_⟩, fun q => by omega⟩ <;> rw [w32_id (z := i + 1) (by omega) (by omega)] <;> rw [bt_shr (by omega)] at g
      · unfold ctS at n; rw [if_pos g] at n; exact n
      · unfold ctS at n; rw [if_neg g] at n; exact n
  have l1 : ∀ (k : Nat) (a x : Int), 0 ≤ a → a + k = 4 → Q (ctQ (nmk (m 110)) k x) m → aX11_comesTo_8 (d + 1) x a m Q := by
    intro k
    induction k with
    | zero =>
      intro a x h0 hi hq
      exact gX11_comesTo_8 (d + 1) x a m Q ⟨fun q => by omega, fun _ => hq⟩
    | succ k ih =>
      intro a x h0 hi hq
      refine gX11_comesTo_8 (d + 1) x a m Q ⟨fun q => l2 4 0 x a (by omega) (by omega) ?_, fun q => by omega⟩
      rw [w32_id (by omega) (by omega)]
      exact ih (a + 1) _ (by omega) (by omega) hq
  refine gX11_comesTo (d + 1) r m Q (s_namesR hr ?_)
  exact l1 4 0 _ (by omega) (by omega) h
theorem s_reachOf {d : Nat} {nm : Int → Int} {r : Int} {m : jM} {Q : Int → jM → Prop} (hr : 0 ≤ r ∧ r < 4) (hN : ∀ q : Int, 0 ≤ q → q < 4 → ruN nm m (m 5 q) q) (h : Q (cto (nmk nm) r) m) : jK (d + 2) zX0_reachOf [jO 0 1, jI r] m Q := by
  have l2 : ∀ (k : Nat) (i x a : Int), 0 ≤ i → i + k = 4 → aX0_reachOf_12 (d + 1) (ctR (nmk nm) k i x) (w32 (a + 1)) m Q → aX0_reachOf_20 (d + 1) x a i m Q := by
    intro k
    induction k with
    | zero =>
      intro i x a h0 hi hq
      exact gX0_reachOf_20 (d + 1) x a i m Q ⟨fun q => by omega, fun _ => hq⟩
    | succ k ih =>
      intro i x a h0 hi hq
      have hq' : aX0_reachOf_12 (d + 1) (ctR (nmk nm) k (i + 1) (ctS (nmk nm) x i)) (w32 (a + 1)) m Q := hq
      have n := ih (i + 1) _ a (by omega) (by omega) hq'
      refine gX0_reachOf_20 (d + 1) x a i m Q ⟨fun q => ⟨fun g => ⟨by omega, s_namesC (hN i (by omega) (by omega)) ?_⟩, fun g => ?_⟩, fun q => by omega⟩ <;> rw [w32_id (z := i + 1) (by omega) (by omega)] <;> rw [bt_shr (by omega)] at g
      · unfold ctS at n; rw [if_pos g] at n; exact n
      · unfold ctS at n; rw [if_neg g] at n; exact n
  have l1 : ∀ (k : Nat) (a x : Int), 0 ≤ a → a + k = 4 → Q (ctQ (nmk nm) k x) m → aX0_reachOf_12 (d + 1) x a m Q := by
    intro k
    induction k with
    | zero =>
      intro a x h0 hi hq
      exact gX0_reachOf_12 (d + 1) x a m Q ⟨fun q => by omega, fun _ => hq⟩
    | succ k ih =>
      intro a x h0 hi hq
      refine gX0_reachOf_12 (d + 1) x a m Q ⟨fun q => l2 4 0 x a (by omega) (by omega) ?_, fun q => by omega⟩
      rw [w32_id (by omega) (by omega)]
      exact ih (a + 1) _ (by omega) (by omega) hq
  refine gX0_reachOf (d + 1) r m Q ⟨by omega, s_namesC (hN r hr.1 hr.2) ?_⟩
  exact l1 4 0 _ (by omega) (by omega) h
/-! closed, and no more than need be -/
theorem ctR_snd {N : Int → Int} {S : Int → Prop} (hS : ∀ x q : Int, 0 ≤ x → x < 4 → 0 ≤ q → q < 8 → S x → bt (N x) q = true → S q) (n : Nat) : ∀ (i x : Int), 0 ≤ i → i + n ≤ 4 → (∀ q, 0 ≤ q → q < 8 → bt x q = true → S q) → ∀ q, 0 ≤ q → q < 8 → bt (ctR N n i x) q = true → S q := by
  induction n with
  | zero => intro i x _ _ h; exact h
  | succ n ih =>
    intro i x h0 hi h
    refine ih (i + 1) _ (by omega) (by omega) (fun q q1 q2 => ?_)
    unfold ctS
    split
    · rename_i g
      rw [bt_or, Bool.or_eq_true]
      rintro (w | w)
      · exact h q q1 q2 w
      · exact hS i q h0 (by omega) q1 q2 (h i h0 (by omega) g) w
    · exact h q q1 q2
theorem ctQ_snd {N : Int → Int} {S : Int → Prop} (hS : ∀ x q : Int, 0 ≤ x → x < 4 → 0 ≤ q → q < 8 → S x → bt (N x) q = true → S q) (n : Nat) : ∀ x : Int, (∀ q, 0 ≤ q → q < 8 → bt x q = true → S q) → ∀ q, 0 ≤ q → q < 8 → bt (ctQ N n x) q = true → S q := by
  induction n with
  | zero => intro x h; exact h
  | succ n ih => intro x h; exact ih _ (ctR_snd hS 4 0 x (by omega) (by omega) h)
theorem cto_snd {N : Int → Int} {S : Int → Prop} {r : Int} (hS : ∀ x q : Int, 0 ≤ x → x < 4 → 0 ≤ q → q < 8 → S x → bt (N x) q = true → S q) (h : ∀ q, 0 ≤ q → q < 8 → bt (N r) q = true → S q) : ∀ q, 0 ≤ q → q < 8 → bt (cto N r) q = true → S q := ctQ_snd hS 4 _ h
theorem ctS_ge {N : Int → Int} {x i q : Int} (h : bt x q = true) : bt (ctS N x i) q = true := by
  unfold ctS
  split
  · rw [bt_or, h]; rfl
  · exact h
theorem ctR_ge {N : Int → Int} {q : Int} (n : Nat) : ∀ (i x : Int), bt x q = true → bt (ctR N n i x) q = true := by
  induction n with
  | zero => intro i x h; exact h
  | succ n ih => intro i x h; exact ih _ _ (ctS_ge h)
theorem ctR_add {N : Int → Int} {q y : Int} (hq : bt (N y) q = true) (n : Nat) : ∀ (i x : Int), i ≤ y → y < i + n → bt x y = true → bt (ctR N n i x) q = true := by
  induction n with
  | zero => intro i x h1 h2; omega
  | succ n ih =>
    intro i x h1 h2 hx
    by_cases hy : y = i
    · refine ctR_ge n _ _ ?_
      unfold ctS
      rw [← hy, if_pos hx, bt_or, hq, Bool.or_true]
    · exact ih (i + 1) _ (by omega) (by omega) (ctS_ge hx)
def ctC (N : Int → Int) (x : Int) : Prop := ∀ y q : Int, 0 ≤ y → y < 4 → 0 ≤ q → q < 4 → bt x y = true → bt (N y) q = true → bt x q = true
theorem pcn_gr {f g : Int → Bool} {k : Int} (n : Nat) (hle : ∀ j : Int, 0 ≤ j → j < n → f j = true → g j = true) : pcn f n ≤ pcn g n ∧ (0 ≤ k → k < n → f k = false → g k = true → pcn f n + 1 ≤ pcn g n) := by
  induction n with
  | zero => exact ⟨Int.le_refl _, fun a b => by omega⟩
  | succ n ih =>
    obtain ⟨a, b⟩ := ih (fun j j1 j2 => hle j j1 (by omega))
    have hn := hle n (by omega) (by omega)
    have ef : pcn f (n + 1) = pcn f n + (if f n then 1 else 0) := rfl
    have eg : pcn g (n + 1) = pcn g n + (if g n then 1 else 0) := rfl
    rw [ef, eg]
    refine ⟨?_, fun k1 k2 k3 k4 => ?_⟩
    · by_cases h : f n = true
      · rw [if_pos h, if_pos (hn h)]; omega
      · rw [if_neg h]; split <;> omega
    · by_cases hk : k = n
      · rw [← hk, if_neg (by rw [k3]; decide), if_pos k4]; omega
      · have b' := b k1 (by omega) k3 k4
        by_cases h : f n = true
        · rw [if_pos h, if_pos (hn h)]; omega
        · rw [if_neg h]; split <;> omega
/-- masks of rules -/
def ctN (N : Int → Int) : Prop := ∀ y q : Int, 0 ≤ y → y < 4 → 0 ≤ q → q < 8 → bt (N y) q = true → q < 4
def ct4 (x : Int) : Prop := ∀ q : Int, 0 ≤ q → q < 8 → bt x q = true → q < 4
theorem ctR_C {N : Int → Int} {x : Int} (hN : ctN N) (h : ctC N x) : ∀ q, 0 ≤ q → q < 8 → bt (ctR N 4 0 x) q = true → bt x q = true :=
  ctR_snd (S := fun q => bt x q = true) (fun y q y1 y2 q1 q2 hy hq => h y q y1 y2 q1 (hN y q y1 y2 q1 q2 hq) hy hq) 4 0 x (by omega) (by omega) (fun _ _ _ g => g)
theorem ctQ_cl {N : Int → Int} (hN : ctN N) (n : Nat) : ∀ x : Int, ctC N x → ctC N (ctQ N n x) := by
  induction n with
  | zero => intro x h; exact h
  | succ n ih =>
    intro x h
    have hs := ctR_C hN h
    exact ih _ (fun y q y1 y2 q1 q2 h1 h2 => ctR_ge 4 0 x (h y q y1 y2 q1 q2 (hs y y1 (by omega) h1) h2))
theorem ctQ_in {N : Int → Int} (hN : ctN N) (n : Nat) : ∀ x : Int, ctC N (ctQ N n x) ∨ pcn (bt x) 4 + n ≤ pcn (bt (ctQ N n x)) 4 := by
  induction n with
  | zero => intro x; right; show pcn (bt x) 4 + ((0 : Nat) : Int) ≤ pcn (bt x) 4; omega
  | succ n ih =>
    intro x
    by_cases h : ctC N x
    · exact Or.inl (ctQ_cl hN (n + 1) x h)
    · rcases ih (ctR N 4 0 x) with g | g
      · exact Or.inl g
      · right
        show pcn (bt x) 4 + ((n + 1 : Nat) : Int) ≤ pcn (bt (ctQ N n (ctR N 4 0 x))) 4
        have : pcn (bt x) 4 + 1 ≤ pcn (bt (ctR N 4 0 x)) 4 := by
          apply Classical.byContradiction
          intro hlt
          apply h
          intro y q y1 y2 q1 q2 hy hq
          apply Classical.byContradiction
          intro hn
          exact hlt ((pcn_gr (k := q) 4 (fun j _ _ g => ctR_ge 4 0 x g)).2 q1 (by omega) (by simpa using hn) (ctR_add hq 4 0 x y1 (by omega) hy))
        omega
theorem cto_cl {N : Int → Int} {r : Int} (hr : 0 ≤ r ∧ r < 4) (hN : ctN N) : ctC N (cto N r) := by
  rcases ctQ_in hN 4 (N r) with g | g
  · exact g
  · have h4 : pcn (bt (ctQ N 4 (N r))) 4 ≤ ((4 : Nat) : Int) := (pcn_nn _ 4).2
    have h0 := (pcn_nn (bt (N r)) 4).1
    have hz : pcn (bt (N r)) 4 = 0 := by omega
    have none : ∀ q : Int, 0 ≤ q → q < 8 → bt (N r) q = true → False := by
      intro q q1 q2 hq
      have hq4 := hN r q hr.1 hr.2 q1 q2 hq
      have := (pcn_gr (f := fun _ => false) (g := bt (N r)) (k := q) 4 (fun _ _ _ g => by cases g)).2 q1 (by omega) rfl hq
      have z : pcn (fun _ => false) 4 = 0 := by decide
      omega
    intro y q y1 y2 q1 q2 hy hq
    exact (cto_snd (S := fun _ => False) (fun _ _ _ _ _ _ f _ => f) none y y1 (by omega) hy).elim
theorem cto_ge {N : Int → Int} {r q : Int} (h : bt (N r) q = true) : bt (cto N r) q = true := by
  have : ∀ (n : Nat) (x : Int), bt x q = true → bt (ctQ N n x) q = true := by
    intro n
    induction n with
    | zero => intro x h; exact h
    | succ n ih => intro x h; exact ih _ (ctR_ge 4 0 x h)
  exact this 4 _ h
theorem nmk_N (nm : Int → Int) : ctN (nmk nm) := fun y q _ _ q1 q2 h => (((nmk_ok nm y).2 q q1 q2).mp h).1
/-- one rule gets a new text, and doesn't come to name itself: ranks again -/
theorem rank_new {nm nm' rk : Int → Int} {r0 : Int} (hr0 : 0 ≤ r0 ∧ r0 < 4) (hk : rkO nm rk) (hs : ∀ r q : Int, 0 ≤ r → r < 4 → r ≠ r0 → 0 ≤ q → q < 4 → nm' (4 * r + q) = nm (4 * r + q)) (hno : ¬ bt (cto (nmk nm') r0) r0 = true) : ∃ rk', rkO nm' rk' := by
  have hN := nmk_N nm'
  have ed : ∀ r q : Int, 0 ≤ q → q < 8 → (bt (nmk nm' r) q = true ↔ q < 4 ∧ 0 < nm' (4 * r + q)) := fun r q q1 q2 => (nmk_ok nm' r).2 q q1 q2
  have old : ∀ r q : Int, 0 ≤ r → r < 4 → r ≠ r0 → 0 ≤ q → q < 8 → bt (nmk nm' r) q = true → rk q < rk r := by
    intro r q r1 r2 hne q1 q2 hb
    have := (ed r q q1 q2).mp hb
    exact hk.2 r q r1 r2 q1 this.1 (by rw [← hs r q r1 r2 hne q1 this.1]; exact this.2)
  -- what names something reaches what that reaches
  have sub : ∀ r x : Int, 0 ≤ r → r < 4 → 0 ≤ x → x < 4 → bt (cto (nmk nm') r) x = true → ∀ q, 0 ≤ q → q < 8 → bt (cto (nmk nm') x) q = true → bt (cto (nmk nm') r) q = true := by
    intro r x r1 r2 x1 x2 hx
    have cl := cto_cl (r := r) ⟨r1, r2⟩ hN
    exact cto_snd (S := fun q => bt (cto (nmk nm') r) q = true) (fun y q y1 y2 q1 q2 hy hq => cl y q y1 y2 q1 (hN y q y1 y2 q1 q2 hq) hy hq) (fun q q1 q2 hq => cl x q x1 x2 q1 (hN x q x1 x2 q1 q2 hq) hx hq)
  have irr : ∀ r : Int, 0 ≤ r → r < 4 → ¬ bt (cto (nmk nm') r) r = true := by
    intro r r1 r2 hb
    by_cases h0 : r = r0
    · rw [h0] at hb; exact hno hb
    have n1 : ¬ bt (cto (nmk nm') r) r0 = true := by
      intro h
      -- r reaches r0; is r reached by r0?
      have S := cto_snd (N := nmk nm') (r := r) (S := fun q => (q = r0 ∨ bt (cto (nmk nm') r0) q = true) ∨ rk q < rk r) (fun y q y1 y2 q1 q2 hy hq => by
        have cl := cto_cl (r := r0) hr0 hN
        by_cases hy0 : y = r0
        · left; right; rw [hy0] at hq; exact cto_ge hq
        · rcases hy with (g | g) | g
          · exact absurd g hy0
          · left; right; exact cl y q y1 y2 q1 (hN y q y1 y2 q1 q2 hq) g hq
          · right; have := old y q y1 y2 hy0 q1 q2 hq; omega) (fun q q1 q2 hq => Or.inr (old r q r1 r2 h0 q1 q2 hq)) r r1 (by omega) hb
      rcases S with (g | g) | g
      · exact h0 g
      · exact hno (sub r0 r hr0.1 hr0.2 r1 r2 g r0 hr0.1 (by omega) h)
      · omega
    have cl := cto_cl (r := r) ⟨r1, r2⟩ hN
    have S := cto_snd (N := nmk nm') (r := r) (S := fun q => bt (cto (nmk nm') r) q = true ∧ rk q < rk r) (fun y q y1 y2 q1 q2 hy hq => by
      have hy0 : y ≠ r0 := by rintro rfl; exact n1 hy.1
      have := old y q y1 y2 hy0 q1 q2 hq
      exact ⟨cl y q y1 y2 q1 (hN y q y1 y2 q1 q2 hq) hy.1 hq, by omega⟩) (fun q q1 q2 hq => ⟨cto_ge hq, old r q r1 r2 h0 q1 q2 hq⟩) r r1 (by omega) hb
    omega
  refine ⟨fun r => pcn (bt (cto (nmk nm') r)) 4, fun r r1 r2 => ⟨(pcn_nn _ 4).1, ?_⟩, fun r q r1 r2 q1 q2 hq => ?_⟩
  · have := (pcn_gr (f := bt (cto (nmk nm') r)) (g := fun _ => true) (k := r) 4 (fun _ _ _ _ => rfl)).2 r1 (by omega) (by simpa using irr r r1 r2) rfl
    have z : pcn (fun _ => true) 4 = 4 := by decide
    dsimp only
    omega
  · dsimp only
    have hb : bt (cto (nmk nm') r) q = true := cto_ge ((ed r q q1 (by omega)).mpr ⟨q2, hq⟩)
    have := (pcn_gr (f := bt (cto (nmk nm') q)) (g := bt (cto (nmk nm') r)) (k := q) 4 (fun j j1 j2 g => sub r q r1 r2 q1 q2 hb j j1 (by omega) g)).2 q1 (by omega) (by simpa using irr q q1 q2) hb
    omega

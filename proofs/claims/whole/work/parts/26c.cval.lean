/-! the class's values: steps on a stack -/
def evS (G : Int → Int → Int → Int) (t : Int → Int) (j c : Int) (E : Int → Int → vR) (r k : Int) : vR := if G r 2 k = 0 then vOk (G r 3 k)
    else if G r 2 k = 1 then vOk (if G r 3 k < 3 then t (3 * j + G r 3 k) else t (3 * (8 + c) + G r 3 k - 3))
    else if G r 2 k = 2 then vNm r (if G (G r 3 k) 0 0 = 0 then vOk 0 else E (G r 3 k) (G (G r 3 k) 1 0))
    else if (E r (G r 4 k)).2.1 ≠ 0 then E r (G r 4 k)
    else if G r 2 k = 6 then vOk (-(E r (G r 4 k)).1)
    else if G r 2 k = 7 then vOk (if (E r (G r 4 k)).1 < 0 then -(E r (G r 4 k)).1 else (E r (G r 4 k)).1)
    else if (E r (G r 5 k)).2.1 ≠ 0 then E r (G r 5 k)
    else if G r 2 k = 12 then (if (E r (G r 4 k)).1 < (E r (G r 5 k)).1 then E r (G r 6 k) else E r (G r 7 k))
    else vJn (G r 2 k) (E r (G r 4 k)).1 (E r (G r 5 k)).1 (G r 8 k) r
theorem ev_S (G : Int → Int → Int → Int) (t : Int → Int) (j c : Int) (n : Nat) (r k : Int) : ev G t j c (n + 1) r k = evS G t j c (ev G t j c n) r k := rfl
theorem ev_fuel {G : Int → Int → Int → Int} {t : Int → Int} {j c : Int} (n : Nat) : ∀ {r k : Int}, wf G n r k → ev G t j c (n + 1) r k = ev G t j c n r k := by
  induction n with
  | zero => intro r k h; exact h.elim
  | succ n ih =>
    intro r k h
    obtain ⟨_, h1⟩ := h
    rw [ev_S G t j c (n + 1), ev_S G t j c n]
    generalize ev G t j c (n + 1) = E1 at *
    generalize ev G t j c n = E0 at *
    unfold evS
    rcases h1 with ⟨h, h2, h3⟩ | ⟨h, h2, h3⟩ | ⟨h, h2, h3⟩ | ⟨h, h2⟩ | ⟨h, h2, h3⟩ | ⟨h, h2, h3, h4, h5⟩
    · simp only [if_pos h]
    · simp only [if_neg (show ¬ G r 2 k = 0 by omega), if_pos h]
    · simp only [if_neg (show ¬ G r 2 k = 0 by omega), if_neg (show ¬ G r 2 k = 1 by omega), if_pos h]
      congr 1
      by_cases g : G (G r 3 k) 0 0 = 0
      · rw [if_pos g, if_pos g]
      · rw [if_neg g, if_neg g]
        rcases h3 with h3 | h3
        · exact absurd h3 g
        · exact ih h3
    · rw [ih h2]
      rcases h with h | h
      · simp only [if_neg (show ¬ G r 2 k = 0 by omega), if_neg (show ¬ G r 2 k = 1 by omega), if_neg (show ¬ G r 2 k = 2 by omega), if_pos h]
      · simp only [if_neg (show ¬ G r 2 k = 0 by omega), if_neg (show ¬ G r 2 k = 1 by omega), if_neg (show ¬ G r 2 k = 2 by omega), if_neg (show ¬ G r 2 k = 6 by omega), if_pos h]
    · rw [ih h2, ih h3]
      simp only [if_neg (show ¬ G r 2 k = 0 by omega), if_neg (show ¬ G r 2 k = 1 by omega), if_neg (show ¬ G r 2 k = 2 by omega), if_neg (show ¬ G r 2 k = 12 by omega)]
    · rw [ih h2, ih h3, ih h4, ih h5]
      simp only [if_neg (show ¬ G r 2 k = 0 by omega), if_neg (show ¬ G r 2 k = 1 by omega), if_neg (show ¬ G r 2 k = 2 by omega)]
theorem ev_le {G : Int → Int → Int → Int} {t : Int → Int} {j c : Int} {n n' : Nat} (h : n ≤ n') {r k : Int} (hw : wf G n r k) : ev G t j c n' r k = ev G t j c n r k := by
  induction h with
  | refl => rfl
  | @step m hm ih => rw [ev_fuel m (wf_le hm hw), ih]
theorem vJn_c1 (op a b place r : Int) : (vJn op a b place r).2.1 ≠ 0 → (vJn op a b place r).2.2.2.1 = 1 := by
  have h1 : ∀ v, (vLm v place r).2.1 ≠ 0 → (vLm v place r).2.2.2.1 = 1 := by
    intro v h
    unfold vLm at h ⊢
    split
    · rename_i g; rw [if_pos g] at h; exact absurd rfl h
    · rfl
  unfold vJn
  split
  · exact h1 _
  split
  · exact h1 _
  split
  · exact h1 _
  split
  · intro h; exact absurd rfl h
  split
  · intro h; exact absurd rfl h
  split
  · intro _; rfl
  split
  · intro h; exact absurd rfl h
  · intro h; exact absurd rfl h
theorem ev_c1 (G : Int → Int → Int → Int) (t : Int → Int) (j c : Int) (n : Nat) : ∀ r k : Int, (ev G t j c n r k).2.1 ≠ 0 → 1 ≤ (ev G t j c n r k).2.2.2.1 := by
  induction n with
  | zero => intro r k h; exact absurd rfl h
  | succ n ih =>
    intro r k
    rw [ev_s]
    split
    · intro h; exact absurd rfl h
    split
    · intro h; exact absurd rfl h
    split
    · intro h
      have hc : 0 ≤ (if G (G r 3 k) 0 0 = 0 then vOk 0 else ev G t j c n (G r 3 k) (G (G r 3 k) 1 0)).2.2.2.1 := by
        split
        · exact Int.le_refl _
        · exact (ev_ch G t j c n _ _).1
      generalize (if G (G r 3 k) 0 0 = 0 then vOk 0 else ev G t j c n (G r 3 k) (G (G r 3 k) 1 0)) = x at *
      unfold vNm at h ⊢
      split
      · rename_i g; rw [if_pos g] at h; exact absurd g h
      · show 1 ≤ x.2.2.2.1 + 1; omega
    split
    · exact ih _ _
    split
    · intro h; exact absurd rfl h
    split
    · intro h; exact absurd rfl h
    split
    · exact ih _ _
    split
    · split
      · exact ih _ _
      · exact ih _ _
    · intro h
      have := vJn_c1 _ _ _ _ _ h
      omega
def cop (op : Int) : Int := if op ≤ 5 then op + 4 else op + 2
/-- steps a .. b - 1 are part k of the text g -/
def cS (g : Int → Int → Int) (so sa sp : Int → Int) : Nat → Int → Int → Int → Prop
  | 0, _, _, _ => False
  | n + 1, a, b, k =>
    (g 2 k = 0 ∧ b = a + 1 ∧ so a = 1 ∧ sa a = g 3 k) ∨
    (g 2 k = 1 ∧ b = a + 1 ∧ ((g 3 k < 3 ∧ so a = 2 ∧ sa a = g 3 k) ∨ (¬ g 3 k < 3 ∧ so a = 3 ∧ sa a = g 3 k - 3))) ∨
    (g 2 k = 2 ∧ b = a + 1 ∧ so a = 4 ∧ sa a = g 3 k) ∨
    (g 2 k = 6 ∧ ((cS g so sa sp n a (b - 1) (g 4 k) ∧ so (b - 1) = 5) ∨ (g 2 (g 4 k) = 6 ∧ cS g so sa sp n a b (g 4 (g 4 k))))) ∨
    (g 2 k = 7 ∧ cS g so sa sp n a (b - 1) (g 4 k) ∧ so (b - 1) = 6) ∨
    (((3 ≤ g 2 k ∧ g 2 k ≤ 5) ∨ (8 ≤ g 2 k ∧ g 2 k ≤ 11)) ∧ ∃ z, cS g so sa sp n a z (g 4 k) ∧ cS g so sa sp n z (b - 1) (g 5 k) ∧ so (b - 1) = cop (g 2 k) ∧ sp (b - 1) = g 8 k) ∨
    (g 2 k = 12 ∧ ∃ x y z, cS g so sa sp n a x (g 4 k) ∧ cS g so sa sp n x y (g 5 k) ∧ so y = 14 ∧ sa y = z + 1 ∧ cS g so sa sp n (y + 1) z (g 6 k) ∧ so z = 15 ∧ sa z = b ∧ cS g so sa sp n (z + 1) b (g 7 k))
theorem cS_lt {g : Int → Int → Int} {so sa sp : Int → Int} (n : Nat) : ∀ {a b k : Int}, cS g so sa sp n a b k → a < b := by
  induction n with
  | zero => intro a b k h; exact h.elim
  | succ n ih =>
    intro a b k h
    rcases h with h | h | h | ⟨_, h⟩ | ⟨_, h, _⟩ | ⟨_, z, h1, h2, _⟩ | ⟨_, x, y, z, h1, h2, _, _, h3, _, _, h4⟩
    · omega
    · omega
    · omega
    · rcases h with h | h
      · have := ih h.1; omega
      · exact ih h.2
    · have := ih h; omega
    · have := ih h1; have := ih h2; omega
    · have := ih h1; have := ih h2; have := ih h3; have := ih h4; omega
def rawj (op a b : Int) : Int := if op = 3 then a + b else if op = 4 then a - b else if op = 5 then a * b else if op = 8 then min a b else if op = 9 then max a b else if b = 0 then -4611686018427387904 else if op = 10 then fdv a b else fmd a b
theorem mul_b {a b : Int} (ha : bnd a) (hb : bnd b) : -1000000000000000000 ≤ a * b ∧ a * b ≤ 1000000000000000000 := by
  unfold bnd at ha hb
  have h1 : (a * b).natAbs ≤ 1000000000 * 1000000000 := by
    rw [Int.natAbs_mul]
    exact Nat.mul_le_mul (by omega) (by omega)
  omega
theorem s_join {d : Nat} {op a b : Int} {m : jM} {Q : Int → jM → Prop} (ho : (3 ≤ op ∧ op ≤ 5) ∨ (8 ≤ op ∧ op ≤ 11)) (ha : bnd a) (hb : bnd b) (h : Q (rawj op a b) m) : jK (d + 2) zX9_join [jI (cop op), jL a, jL b] m Q := by
  have hm := mul_b ha hb
  have ha' := ha
  have hb' := hb
  unfold bnd at ha hb
  unfold rawj at h
  have hcop : cop op = if op ≤ 5 then op + 4 else op + 2 := rfl
  refine gX9_join (d + 1) (cop op) a b m Q ⟨fun q => ?_, fun q => ?_, fun q => ?_, fun q => s_min ?_, fun q => s_max ?_, fun q => ⟨fun q2 => ?_, fun q2 => ⟨fun q3 => s_fdv q2 ?_, fun q3 => s_fmd q2 ?_⟩⟩, trivial⟩
  · have e : op = 3 := by rw [hcop] at q; split at q <;> omega
    rw [w64_id (by omega) (by omega)]
    rw [if_pos e] at h; exact h
  · have e : op = 4 := by rw [hcop] at q; split at q <;> omega
    rw [w64_id (by omega) (by omega)]
    rw [if_neg (by omega), if_pos e] at h; exact h
  · have e : op = 5 := by rw [hcop] at q; split at q <;> omega
    rw [w64_id (by omega) (by omega)]
    rw [if_neg (by omega), if_neg (by omega), if_pos e] at h; exact h
  · have e : op = 8 := by rw [hcop] at q; split at q <;> omega
    rw [if_neg (by omega), if_neg (by omega), if_neg (by omega), if_pos e] at h; exact h
  · have e : op = 9 := by rw [hcop] at q; split at q <;> omega
    rw [if_neg (by omega), if_neg (by omega), if_neg (by omega), if_neg (by omega), if_pos e] at h; exact h
  all_goals
    have e : op = 10 ∨ op = 11 := by rw [hcop] at q; split at q <;> omega
    rw [if_neg (by omega), if_neg (by omega), if_neg (by omega), if_neg (by omega), if_neg (by omega)] at h
  · rw [if_pos q2] at h; exact h
  · rw [if_neg q2] at h
    have e2 : op = 10 := by rw [hcop] at q3; split at q3 <;> omega
    rw [if_pos e2] at h; exact h
  · rw [if_neg q2] at h
    have e2 : ¬ op = 10 := by rw [hcop] at q3; split at q3 <;> omega
    rw [if_neg e2] at h; exact h
theorem raw_ok {op a b place r : Int} (ha : bnd a) (hb : bnd b) : ((vJn op a b place r).2.1 = 0 → bnd (rawj op a b) ∧ rawj op a b = (vJn op a b place r).1) ∧ ((vJn op a b place r).2.1 ≠ 0 → ¬ bnd (rawj op a b) ∧ vJn op a b place r = vFl (if rawj op a b = -4611686018427387904 then 1 else 2) place r) := by
  have hm := mul_b ha hb
  have ha' := ha
  have hb' := hb
  unfold bnd at ha hb
  have lim : ∀ v : Int, v ≠ -4611686018427387904 → ((vLm v place r).2.1 = 0 → bnd v ∧ v = (vLm v place r).1) ∧ ((vLm v place r).2.1 ≠ 0 → ¬ bnd v ∧ vLm v place r = vFl (if v = -4611686018427387904 then 1 else 2) place r) := by
    intro v hv
    unfold vLm
    by_cases g : -1000000000 ≤ v ∧ v ≤ 1000000000
    · rw [if_pos g]
      exact ⟨fun _ => ⟨g, rfl⟩, fun q => absurd rfl q⟩
    · rw [if_neg g]
      refine ⟨fun q => ?_, fun _ => ⟨g, by rw [if_neg hv]⟩⟩
      have : (2 : Int) = 0 := q
      omega
  have okc : ∀ v : Int, bnd v → ((vOk v).2.1 = 0 → bnd v ∧ v = (vOk v).1) ∧ ((vOk v).2.1 ≠ 0 → ¬ bnd v ∧ vOk v = vFl (if v = -4611686018427387904 then 1 else 2) place r) := fun v hv => ⟨fun _ => ⟨hv, rfl⟩, fun q => absurd rfl q⟩
  unfold vJn rawj
  by_cases h3 : op = 3
  · simp only [if_pos h3]; exact lim _ (by omega)
  simp only [if_neg h3]
  by_cases h4 : op = 4
  · simp only [if_pos h4]; exact lim _ (by omega)
  simp only [if_neg h4]
  by_cases h5 : op = 5
  · simp only [if_pos h5]; exact lim _ (by omega)
  simp only [if_neg h5]
  by_cases h8 : op = 8
  · simp only [if_pos h8]; exact okc _ (by unfold bnd; omega)
  simp only [if_neg h8]
  by_cases h9 : op = 9
  · simp only [if_pos h9]; exact okc _ (by unfold bnd; omega)
  simp only [if_neg h9]
  by_cases hb0 : b = 0
  · simp only [if_pos hb0]
    refine ⟨fun q => ?_, fun _ => ⟨by unfold bnd; omega, by first | rfl | simp⟩⟩
    have : (1 : Int) = 0 := q
    omega
  simp only [if_neg hb0]
  by_cases h10 : op = 10
  · simp only [if_pos h10]; exact okc _ (fdv_b ha' hb' hb0)
  · simp only [if_neg h10]; exact okc _ (fmd_b ha' hb' hb0)

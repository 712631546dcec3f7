/-! the class's step() -/
theorem run_le {P : Int → Bool} {B : Int → Int} {n : Int} (hP : ∀ i, n ≤ i → ¬ P (B i) = true) (r : Nat) : ∀ p : Int, p ≤ n → runF P B r p ≤ n := by
  induction r with
  | zero => intro p hp; exact hp
  | succ r ih =>
    intro p hp
    rw [runF_s]
    split
    · rename_i g
      refine ih (p + 1) ?_
      have : ¬ n ≤ p := fun q => hP p q g
      omega
    · exact hp
theorem bOf_out {w : Int → Int} {n i : Int} (h : n ≤ i) : bOf w n i = -1 := by unfold bOf; rw [if_neg (by omega)]
theorem bOf_in {w : Int → Int} {n i : Int} (h : i < n) : bOf w n i = w i := by unfold bOf; rw [if_pos h]
theorem cTk_i {B : Int → Int} {p k v e : Int} {m : jM} (htk : tk B p = (k, v, e)) (h6 : m 45 6 = p) (h3 : k ≠ 6 → m 45 3 = e) (h0 : 0 ≤ m 45 3)
    (h : (k = 0 → m 45 5 = 0) ∧ (k = 1 → m 45 5 = 1 ∧ m 45 7 = 1 ∧ m 45 8 = v) ∧ (k = 2 → m 45 5 = 1 ∧ (if v < 3 then m 45 7 = 2 ∧ m 45 8 = v else m 45 7 = 3 ∧ m 45 8 = v - 3)) ∧ (k = 3 → m 45 5 = 1 ∧ m 45 7 = 4 ∧ m 45 8 = v) ∧ (k = 4 → m 45 5 = 2 ∧ m 45 7 = v + 2) ∧ (k = 5 → m 45 5 = v) ∧ (k = 6 → m 45 5 = 3)) : cTk B p m := by
  unfold cTk
  rw [htk]
  exact ⟨h6, h3, h0, h⟩
theorem tFr_tr {m m1 m2 : jM} (h : tFr m m1) (h' : tFr m1 m2) : tFr m m2 := ⟨fun q hq => by rw [h'.1 q hq, h.1 q hq], fun f a b c d e => by rw [h'.2 f a b c d e, h.2 f a b c d e]⟩
theorem tFr_up {m m1 : jM} (h : tFr m m1) {f v : Int} (hf : f = 3 ∨ f = 5 ∨ f = 6 ∨ f = 7 ∨ f = 8) : tFr m (jUp m1 45 f v) := ⟨fun q hq => by rw [up_ne hq]; exact h.1 q hq, fun g a b c d e => by rw [up_oth (by omega)]; exact h.2 g a b c d e⟩
theorem s_nameOfOne {d : Nat} {B : Int → Int} {p e : Int} {m : jM} {Q : Int → jM → Prop} (h6 : m 45 6 = p) (h3 : m 45 3 = e) (he : 0 ≤ e) (hl : isLt (B p)) (hE : lts B p = e) (he1 : e = p + 1)
    (h : ∀ m', tFr m m' → m' 45 3 = e → cTk B p m' → Q 0 m') : jK (d + 1) zX8_nameOfOne [jO 8 45, jI (B p)] m Q := by
  have hne : ¬ B p = -1 := by unfold isLt at hl; omega
  have base : tk B p = (if B p ≤ 99 then (2, B p - 97, lts B p) else if 120 ≤ B p then (2, 3 + B p - 120, lts B p) else if 112 ≤ B p ∧ B p ≤ 115 then (3, B p - 112, lts B p) else (6, 0, lts B p)) := by
    unfold tk
    rw [if_neg hne, if_pos hl, if_pos (by omega)]
  unfold isLt at hl
  have f0 : tFr m m := ⟨fun _ _ => rfl, fun _ _ _ _ _ _ => rfl⟩
  refine gX8_nameOfOne d (B p) m Q ⟨fun q => ⟨fun q2 => ⟨fun q3 => ?_, fun q3 => ⟨fun q4 => ?_, fun q4 => ?_⟩⟩, fun q2 => ?_⟩, fun q => ?_⟩
  · rw [if_neg (by omega), if_neg (by omega), if_neg (by omega)] at base
    refine h _ (tFr_up (tFr_up f0 (by omega)) (by omega)) (by rw [up_oth (by omega), up_oth (by omega)]; exact h3) (cTk_i base (by rw [up_oth (by omega), up_oth (by omega)]; exact h6) (fun g => absurd rfl g) (by rw [up_oth (by omega), up_oth (by omega), h3]; exact he) ⟨fun g => by omega, fun g => by omega, fun g => by omega, fun g => by omega, fun g => by omega, fun g => by omega, fun _ => up_same⟩)
  · rw [if_neg (by omega), if_neg (by omega), if_neg (by omega)] at base
    refine h _ (tFr_up (tFr_up f0 (by omega)) (by omega)) (by rw [up_oth (by omega), up_oth (by omega)]; exact h3) (cTk_i base (by rw [up_oth (by omega), up_oth (by omega)]; exact h6) (fun g => absurd rfl g) (by rw [up_oth (by omega), up_oth (by omega), h3]; exact he) ⟨fun g => by omega, fun g => by omega, fun g => by omega, fun g => by omega, fun g => by omega, fun g => by omega, fun _ => up_same⟩)
  · rw [if_neg (by omega), if_neg (by omega), if_pos (by omega), hE] at base
    rw [w32_id (by omega) (by omega)]
    have a3 : ∀ f v f' v' f'' v'', f ≠ 3 → f' ≠ 3 → f'' ≠ 3 → jUp (jUp (jUp m 45 f v) 45 f' v') 45 f'' v'' 45 3 = e := fun f v f' v' f'' v'' x y z => by rw [up_oth (by omega), up_oth (by omega), up_oth (by omega)]; exact h3
    refine h _ (tFr_up (tFr_up (tFr_up f0 (by omega)) (by omega)) (by omega)) (a3 _ _ _ _ _ _ (by omega) (by omega) (by omega)) (cTk_i base (by rw [up_oth (by omega), up_oth (by omega), up_oth (by omega)]; exact h6) (fun _ => a3 _ _ _ _ _ _ (by omega) (by omega) (by omega)) (by rw [a3 _ _ _ _ _ _ (by omega) (by omega) (by omega)]; exact he) ⟨fun g => by omega, fun g => by omega, fun g => by omega, fun _ => ⟨?_, ?_, up_same⟩, fun g => by omega, fun g => by omega, fun g => by omega⟩)
    · rw [up_oth (by omega), up_oth (by omega), up_same]
    · rw [up_oth (by omega), up_same]
  · rw [if_neg (by omega), if_pos (by omega), hE] at base
    rw [w32_id (by omega) (by omega)]
    have a3 : ∀ f v f' v' f'' v'', f ≠ 3 → f' ≠ 3 → f'' ≠ 3 → jUp (jUp (jUp m 45 f v) 45 f' v') 45 f'' v'' 45 3 = e := fun f v f' v' f'' v'' x y z => by rw [up_oth (by omega), up_oth (by omega), up_oth (by omega)]; exact h3
    refine h _ (tFr_up (tFr_up (tFr_up f0 (by omega)) (by omega)) (by omega)) (a3 _ _ _ _ _ _ (by omega) (by omega) (by omega)) (cTk_i base (by rw [up_oth (by omega), up_oth (by omega), up_oth (by omega)]; exact h6) (fun _ => a3 _ _ _ _ _ _ (by omega) (by omega) (by omega)) (by rw [a3 _ _ _ _ _ _ (by omega) (by omega) (by omega)]; exact he) ⟨fun g => by omega, fun g => by omega, fun _ => ⟨?_, ?_⟩, fun g => by omega, fun g => by omega, fun g => by omega, fun g => by omega⟩)
    · rw [up_oth (by omega), up_oth (by omega), up_same]
    · rw [if_neg (by omega)]
      exact ⟨by rw [up_oth (by omega), up_same], by rw [up_same]; omega⟩
  · rw [if_pos (by omega), hE] at base
    rw [w32_id (by omega) (by omega)]
    have a3 : ∀ f v f' v' f'' v'', f ≠ 3 → f' ≠ 3 → f'' ≠ 3 → jUp (jUp (jUp m 45 f v) 45 f' v') 45 f'' v'' 45 3 = e := fun f v f' v' f'' v'' x y z => by rw [up_oth (by omega), up_oth (by omega), up_oth (by omega)]; exact h3
    refine h _ (tFr_up (tFr_up (tFr_up f0 (by omega)) (by omega)) (by omega)) (a3 _ _ _ _ _ _ (by omega) (by omega) (by omega)) (cTk_i base (by rw [up_oth (by omega), up_oth (by omega), up_oth (by omega)]; exact h6) (fun _ => a3 _ _ _ _ _ _ (by omega) (by omega) (by omega)) (by rw [a3 _ _ _ _ _ _ (by omega) (by omega) (by omega)]; exact he) ⟨fun g => by omega, fun g => by omega, fun _ => ⟨?_, ?_⟩, fun g => by omega, fun g => by omega, fun g => by omega, fun g => by omega⟩)
    · rw [up_oth (by omega), up_oth (by omega), up_same]
    · rw [if_pos (by omega)]
      exact ⟨by rw [up_oth (by omega), up_same], up_same⟩
theorem s_nameOfThree {d : Nat} {B : Int → Int} {p e : Int} {m : jM} {Q : Int → jM → Prop} (h6 : m 45 6 = p) (h3 : m 45 3 = e) (he : 0 ≤ e) (hl : isLt (B p)) (hE : lts B p = e) (he1 : e = p + 3)
    (h : ∀ m', tFr m m' → m' 45 3 = e → cTk B p m' → Q 0 m') : jK (d + 1) zX8_nameOfThree [jO 8 45, jI (B p), jI (B (p + 1)), jI (B (p + 2))] m Q := by
  have hne : ¬ B p = -1 := by unfold isLt at hl; omega
  have base : tk B p = (if B p = 109 ∧ B (p + 1) = 105 ∧ B (p + 2) = 110 then (4, 8, lts B p) else if B p = 109 ∧ B (p + 1) = 97 ∧ B (p + 2) = 120 then (4, 9, lts B p) else if B p = 100 ∧ B (p + 1) = 105 ∧ B (p + 2) = 118 then (4, 10, lts B p) else if B p = 109 ∧ B (p + 1) = 111 ∧ B (p + 2) = 100 then (4, 11, lts B p) else (6, 0, lts B p)) := by
    unfold tk
    rw [if_neg hne, if_pos hl, if_neg (by omega), if_pos (by omega)]
  rw [hE] at base
  generalize B p = b0 at *
  generalize B (p + 1) = b1 at *
  generalize B (p + 2) = b2 at *
  have f0 : tFr m (jUp m 45 5 2) := tFr_up ⟨fun _ _ => rfl, fun _ _ _ _ _ _ => rfl⟩ (by omega)
  have ok : ∀ v : Int, tk B p = (4, v, e) → Q 0 (jUp (jUp m 45 5 2) 45 7 (v + 2)) := fun v hv =>
    h _ (tFr_up f0 (by omega)) (by rw [up_oth (by omega), up_oth (by omega)]; exact h3) (cTk_i hv (by rw [up_oth (by omega), up_oth (by omega)]; exact h6) (fun _ => by rw [up_oth (by omega), up_oth (by omega)]; exact h3) (by rw [up_oth (by omega), up_oth (by omega), h3]; exact he) ⟨fun g => by omega, fun g => by omega, fun g => by omega, fun g => by omega, fun _ => ⟨by rw [up_oth (by omega), up_same], up_same⟩, fun g => by omega, fun g => by omega⟩)
  have bad : tk B p = (6, 0, e) → Q 0 (jUp (jUp m 45 5 2) 45 5 3) := fun hv =>
    h _ (tFr_up f0 (by omega)) (by rw [up_oth (by omega), up_oth (by omega)]; exact h3) (cTk_i hv (by rw [up_oth (by omega), up_oth (by omega)]; exact h6) (fun g => absurd rfl g) (by rw [up_oth (by omega), up_oth (by omega), h3]; exact he) ⟨fun g => by omega, fun g => by omega, fun g => by omega, fun g => by omega, fun g => by omega, fun g => by omega, fun _ => up_same⟩)
  have L86 : ¬ (b0 = 109 ∧ b1 = 105 ∧ b2 = 110) → ¬ (b0 = 109 ∧ b1 = 97 ∧ b2 = 120) → ¬ (b0 = 100 ∧ b1 = 105 ∧ b2 = 118) → aX8_nameOfThree_86 d b0 b1 b2 (jUp m 45 5 2) Q := by
    intro n1 n2 n3
    rw [if_neg n1, if_neg n2, if_neg n3] at base
    refine gX8_nameOfThree_86 d b0 b1 b2 _ Q ⟨fun q => ⟨fun q2 => ⟨fun q3 => ?_, fun q3 => ?_⟩, fun q2 => ?_⟩, fun q => ?_⟩
    · rw [if_pos ⟨q, q2, q3⟩] at base; exact ok 11 base
    · rw [if_neg (fun g => q3 g.2.2)] at base; exact bad base
    · rw [if_neg (fun g => q2 g.2.1)] at base; exact bad base
    · rw [if_neg (fun g => q g.1)] at base; exact bad base
  have L32 : ¬ (b0 = 109 ∧ b1 = 105 ∧ b2 = 110) → aX8_nameOfThree_32 d b0 b1 b2 (jUp m 45 5 2) Q := by
    intro n1
    rw [if_neg n1] at base
    have more : ¬ (b0 = 109 ∧ b1 = 97 ∧ b2 = 120) → (b0 = 100 → (b1 = 105 → (b2 = 118 → Q 0 (jUp (jUp m 45 5 2) 45 7 12)) ∧ (¬ b2 = 118 → aX8_nameOfThree_86 d b0 b1 b2 (jUp m 45 5 2) Q)) ∧ (¬ b1 = 105 → aX8_nameOfThree_86 d b0 b1 b2 (jUp m 45 5 2) Q)) ∧ (¬ b0 = 100 → aX8_nameOfThree_86 d b0 b1 b2 (jUp m 45 5 2) Q) := by
      intro n2
      refine ⟨fun q => ⟨fun q2 => ⟨fun q3 => ?_, fun q3 => L86 n1 n2 (fun g => q3 g.2.2)⟩, fun q2 => L86 n1 n2 (fun g => q2 g.2.1)⟩, fun q => L86 n1 n2 (fun g => q g.1)⟩
      rw [if_neg n2, if_pos ⟨q, q2, q3⟩] at base
      exact ok 10 base
    refine gX8_nameOfThree_32 d b0 b1 b2 _ Q ⟨fun q => ⟨fun q2 => ⟨fun q3 => ?_, fun q3 => more (fun g => q3 g.2.2)⟩, fun q2 => more (fun g => q2 g.2.1)⟩, fun q => more (fun g => q g.1)⟩
    rw [if_pos ⟨q, q2, q3⟩] at base
    exact ok 9 base
  refine gX8_nameOfThree d b0 b1 b2 m Q ⟨fun q => ⟨fun q2 => ⟨fun q3 => ?_, fun q3 => L32 (fun g => q3 g.2.2)⟩, fun q2 => L32 (fun g => q2 g.2.1)⟩, fun q => L32 (fun g => q g.1)⟩
  rw [if_pos ⟨q, q2, q3⟩] at base
  exact ok 8 base
theorem s_stepC {d : Nat} {a n : Int} {m : jM} {Q : Int → jM → Prop} (hn : 0 ≤ n ∧ n ≤ 60) (ha : 0 ≤ a ∧ a ≤ n) (h1 : m 45 1 = n) (h3 : m 45 3 = a) (hb : ∀ i : Int, 0 ≤ i → i < n → 0 ≤ m 46 i ∧ m 46 i ≤ 255)
    (h : ∀ m', tFr m m' → cTk (bOf (m 46) n) (skp (bOf (m 46) n) a) m' → m' 45 3 ≤ n → (0 ≤ skp (bOf (m 46) n) a ∧ skp (bOf (m 46) n) a ≤ n) → Q 0 m') : jK (d + 3) zX8_step [jO 8 45] m Q := by
  generalize hB : bOf (m 46) n = B at *
  have hBo : ∀ i, n ≤ i → B i = -1 := fun i hi => by rw [← hB]; exact bOf_out hi
  have hBi : ∀ i, i < n → B i = m 46 i := fun i hi => by rw [← hB]; exact bOf_in hi
  have hBr : ∀ i, 0 ≤ i → B i = -1 → n ≤ i := by
    intro i h0 hi
    apply Decidable.byContradiction
    intro g
    rw [hBi i (by omega)] at hi
    have := hb i h0 (by omega)
    omega
  have stB : ∀ i, n ≤ i → ¬ decide (B i = 32) = true := fun i hi => by rw [hBo i hi]; decide
  have stL : ∀ i, n ≤ i → ¬ decide (isLt (B i)) = true := fun i hi => by rw [hBo i hi]; decide
  have stD : ∀ i, n ≤ i → ¬ decide (isDg (B i)) = true := fun i hi => by rw [hBo i hi]; decide
  -- letters
  have Lword : ∀ (K : Int → jM → Prop) (r : Nat) (e p : Int) (m1 : jM), e + r = 61 → p < e → e ≤ n → 0 ≤ p → isLt (B p) → lts B p = runF (fun b => decide (isLt b)) B (61 - e).toNat e → tFr m m1 → m1 45 6 = p → m1 45 3 = e → (∀ m', tFr m m' → cTk B p m' → m' 45 3 ≤ n → K 0 m') → aX8_word_0 (d + 1) (B p) m1 K := by
    intro K r
    have W39 : ∀ (e p : Int) (m1 : jM), p < e → e ≤ n → 0 ≤ p → isLt (B p) → lts B p = e → tFr m m1 → m1 45 6 = p → m1 45 3 = e → (∀ m', tFr m m' → cTk B p m' → m' 45 3 ≤ n → K 0 m') → aX8_word_39 (d + 1) (B p) m1 K := by
      intro e p m1 hpe hen hp0 hl hE hf g6 g3 hK
      have e46 := hf.1 46 (by omega)
      refine gX8_word_39 (d + 1) (B p) m1 K ⟨fun q => ?_, fun q => ⟨fun q2 => ⟨?_, ?_, ?_⟩, fun q2 => ?_⟩⟩ <;> rw [g3, g6, w32_id (by omega) (by omega)] at q
      · refine s_nameOfOne g6 g3 (by omega) hl hE (by omega) (fun m' p1 p2 p3 => hK m' (tFr_tr hf p1) p3 (by omega))
      all_goals rw [g3, g6, w32_id (z := e - p) (by omega) (by omega)] at q2
      · rw [g6, w32_id (by omega) (by omega)]; omega
      · rw [g6, w32_id (by omega) (by omega)]; omega
      · rw [g6, w32_id (z := p + 1) (by omega) (by omega), w32_id (z := p + 2) (by omega) (by omega), e46, ← hBi (p + 1) (by omega), ← hBi (p + 2) (by omega)]
        refine s_nameOfThree g6 g3 (by omega) hl hE (by omega) (fun m' p1 p2 p3 => hK m' (tFr_tr hf p1) p3 (by omega))
      · have htk : tk B p = (6, 0, e) := by
          have hne : ¬ B p = -1 := by unfold isLt at hl; omega
          unfold tk
          rw [if_neg hne, if_pos hl, hE, if_neg (by omega), if_neg (by omega)]
        refine hK _ (tFr_up hf (by omega)) (cTk_i htk (by rw [up_oth (by omega)]; exact g6) (fun g => absurd rfl g) (by rw [up_oth (by omega)]; omega) ⟨fun g => by omega, fun g => by omega, fun g => by omega, fun g => by omega, fun g => by omega, fun g => by omega, fun _ => up_same⟩) (by rw [up_oth (by omega)]; omega)
    induction r with
    | zero => intro e p m1 he hpe hen; omega
    | succ r ih =>
      intro e p m1 he hpe hen hp0 hl hE hf g6 g3 hK
      have e46 := hf.1 46 (by omega)
      have e1 : m1 45 1 = n := by rw [hf.2 1 (by omega) (by omega) (by omega) (by omega) (by omega)]; exact h1
      refine gX8_word_0 (d + 1) (B p) m1 K ⟨fun q => ⟨by omega, ?_⟩, fun q => ?_⟩
      · rw [g3, e1] at q
        rw [g3, e46, ← hBi e q]
        refine s_isLetterC (fun hl2 => ⟨fun g => by omega, fun _ => ?_⟩) (fun hl2 => ⟨fun _ => ?_, fun g => absurd rfl g⟩)
        · rw [g3, w32_id (by omega) (by omega)]
          have hr2 := run_in (P := fun b => decide (isLt b)) (B := B) (p := e) (by simpa using hl2) (by omega)
          refine ih (e + 1) p _ (by omega) (by omega) (by omega) hp0 hl (by rw [hE]; exact hr2) (tFr_up hf (by omega)) (by rw [up_oth (by omega)]; exact g6) up_same hK
        · rw [run_out (by simpa using hl2)] at hE
          exact W39 e p m1 hpe hen hp0 hl hE hf g6 g3 hK
      · rw [g3, e1] at q
        rw [run_out (stL e (by omega))] at hE
        exact W39 e p m1 hpe hen hp0 hl hE hf g6 g3 hK
  -- digits
  have Ldig : ∀ (K : Int → jM → Prop) (r : Nat) (e p : Int) (m1 : jM), e + r = 61 → p < e → e ≤ n → 0 ≤ p → isDg (B p) → dgs B p = runF (fun b => decide (isDg b)) B (61 - e).toNat e → tFr m m1 → m1 45 6 = p → m1 45 3 = e → m1 45 5 = 1 → m1 45 7 = 1 → (e ≤ p + 4 → m1 45 8 = dgV B (e - p).toNat p 0) → (∀ i, p ≤ i → i < e → isDg (B i)) → (∀ m', tFr m m' → cTk B p m' → m' 45 3 ≤ n → K 0 m') → aX8_digits_18 (d + 1) m1 K := by
    intro K r
    have fin : ∀ (e p : Int) (m1 : jM), p < e → e ≤ n → 0 ≤ p → isDg (B p) → dgs B p = e → tFr m m1 → m1 45 6 = p → m1 45 3 = e → m1 45 5 = 1 → m1 45 7 = 1 → (e ≤ p + 4 → m1 45 8 = dgV B (e - p).toNat p 0) → (∀ m', tFr m m' → cTk B p m' → m' 45 3 ≤ n → K 0 m') → (4 < w32 (m1 45 3 - m1 45 6) → K 0 (jUp m1 45 5 3)) ∧ (¬ 4 < w32 (m1 45 3 - m1 45 6) → K 0 m1) := by
      intro e p m1 hpe hen hp0 hl hE hf g6 g3 g5 g7 g8 hK
      have hne : ¬ B p = -1 := by unfold isDg at hl; omega
      have hnl : ¬ isLt (B p) := by unfold isDg at hl; unfold isLt; omega
      rw [g3, g6, w32_id (by omega) (by omega)]
      refine ⟨fun q => ?_, fun q => ?_⟩
      · have htk : tk B p = (6, 0, e) := by
          unfold tk
          rw [if_neg hne, if_neg hnl, if_pos hl, hE, if_pos (by omega)]
        refine hK _ (tFr_up hf (by omega)) (cTk_i htk (by rw [up_oth (by omega)]; exact g6) (fun g => absurd rfl g) (by rw [up_oth (by omega)]; omega) ⟨fun g => by omega, fun g => by omega, fun g => by omega, fun g => by omega, fun g => by omega, fun g => by omega, fun _ => up_same⟩) (by rw [up_oth (by omega)]; omega)
      · have htk : tk B p = (1, dgV B (e - p).toNat p 0, e) := by
          unfold tk
          rw [if_neg hne, if_neg hnl, if_pos hl, hE, if_neg (by omega)]
        refine hK m1 hf (cTk_i htk g6 (fun _ => g3) (by omega) ⟨fun g => by omega, fun _ => ⟨g5, g7, g8 (by omega)⟩, fun g => by omega, fun g => by omega, fun g => by omega, fun g => by omega, fun g => by omega⟩) (by omega)
    have dgV_s : ∀ (r : Nat) (p v : Int), dgV B (r + 1) p v = 10 * dgV B r p v + B (p + r) - 48 := by
      intro r
      induction r with
      | zero => intro p v; show 10 * v + B p - 48 = 10 * v + B (p + ((0 : Nat) : Int)) - 48; rw [show p + ((0 : Nat) : Int) = p by omega]
      | succ r ih =>
        intro p v
        show dgV B (r + 1) (p + 1) (10 * v + B p - 48) = 10 * dgV B r (p + 1) (10 * v + B p - 48) + B (p + ((r + 1 : Nat) : Int)) - 48
        rw [ih, show p + 1 + (r : Int) = p + ((r + 1 : Nat) : Int) by omega]
    have dgV_b : ∀ (r : Nat) (p : Int), (∀ i : Nat, i < r → isDg (B (p + i))) → r ≤ 4 → 0 ≤ dgV B r p 0 ∧ dgV B r p 0 ≤ 10 ^ r - 1 := by
      intro r
      induction r with
      | zero => intro p _ _; show 0 ≤ (0 : Int) ∧ (0 : Int) ≤ 10 ^ 0 - 1; decide
      | succ r ih =>
        intro p hd hr
        have := ih p (fun i hi => hd i (by omega)) (by omega)
        have hl := hd r (by omega)
        unfold isDg at hl
        rw [dgV_s, Int.pow_succ]
        omega
    induction r with
    | zero => intro e p m1 he hpe hen; omega
    | succ r ih =>
      intro e p m1 he hpe hen hp0 hl hE hf g6 g3 g5 g7 g8 hds hK
      have e46 := hf.1 46 (by omega)
      have e1 : m1 45 1 = n := by rw [hf.2 1 (by omega) (by omega) (by omega) (by omega) (by omega)]; exact h1
      refine gX8_digits_18 (d + 1) m1 K ⟨fun q => ⟨by omega, ?_⟩, fun q => ?_⟩
      · rw [g3, e1] at q
        rw [g3, e46, ← hBi e q]
        refine s_isDigitC (fun hl2 => ⟨fun g => by omega, fun _ => ⟨by omega, ?_⟩⟩) (fun hl2 => ⟨fun _ => ?_, fun g => absurd rfl g⟩)
        · have hr2 := run_in (P := fun b => decide (isDg b)) (B := B) (p := e) (by simpa using hl2) (by omega)
          rw [up_oth (show ¬ (3 : Int) = 8 by omega), g3, w32_id (z := e + 1) (by omega) (by omega)]
          refine ih (e + 1) p _ (by omega) (by omega) (by omega) hp0 hl (by rw [hE]; exact hr2) (tFr_up (tFr_up hf (by omega)) (by omega)) (by rw [up_oth (by omega), up_oth (by omega)]; exact g6) up_same (by rw [up_oth (by omega), up_oth (by omega)]; exact g5) (by rw [up_oth (by omega), up_oth (by omega)]; exact g7) (fun hle => ?_) (fun i i1 i2 => ?_) hK
          · rw [up_oth (by omega), up_same, g8 (by omega), show (e + 1 - p).toNat = (e - p).toNat + 1 by omega, dgV_s, show p + (((e - p).toNat : Nat) : Int) = e by omega]
            have hb4 := dgV_b (e - p).toNat p (fun i hi => hds _ (by omega) (by omega)) (by omega)
            have h10 : (10 : Int) ^ (e - p).toNat ≤ 1000 := by
              have : ∀ k : Fin 4, (10 : Int) ^ k.val ≤ 1000 := by decide
              exact this ⟨(e - p).toNat, by omega⟩
            have hbe := hb e (by omega) q
            rw [e46]
            rw [hBi e q]
            rw [w32_id (z := dgV B (e - p).toNat p 0 * 10) (by omega) (by omega), w32_id (z := dgV B (e - p).toNat p 0 * 10 + m 46 e) (by omega) (by omega), w32_id (by omega) (by omega)]
            omega
          · by_cases hie : i = e
            · rw [hie]; exact hl2
            · exact hds i i1 (by omega)
        · rw [run_out (by simpa using hl2)] at hE
          exact fin e p m1 hpe hen hp0 hl hE hf g6 g3 g5 g7 g8 hK
      · rw [g3, e1] at q
        rw [run_out (stD e (by omega))] at hE
        exact fin e p m1 hpe hen hp0 hl hE hf g6 g3 g5 g7 g8 hK
  -- the token
  have L38 : ∀ (p : Int) (m1 : jM), 0 ≤ p → p ≤ n → tFr m m1 → m1 45 3 = p → (∀ m', tFr m m' → cTk B p m' → m' 45 3 ≤ n → Q 0 m') → aX8_step_38 (d + 2) m1 Q := by
    intro p m1 hp0 hpn hf g3 hK
    have e46 := hf.1 46 (by omega)
    have e1 : m1 45 1 = n := by rw [hf.2 1 (by omega) (by omega) (by omega) (by omega) (by omega)]; exact h1
    have u3 : jUp m1 45 6 (m1 45 3) 45 3 = p := by rw [up_oth (by omega)]; exact g3
    have u1 : jUp m1 45 6 (m1 45 3) 45 1 = n := by rw [up_oth (by omega)]; exact e1
    have u46 : jUp m1 45 6 (m1 45 3) 46 = m 46 := by rw [up_ne (by omega)]; exact e46
    have u6 : jUp m1 45 6 (m1 45 3) 45 6 = p := by rw [up_same]; exact g3
    have uf : tFr m (jUp m1 45 6 (m1 45 3)) := tFr_up hf (by omega)
    refine gX8_step_38 (d + 2) m1 Q ⟨fun q => ⟨by omega, ?_⟩, fun q => ?_⟩ <;> rw [u3, u1] at q
    · rw [u3, u46, ← hBi p q, w32_id (by omega) (by omega)]
      generalize jUp m1 45 6 (m1 45 3) = m2 at *
      have hne : ¬ B p = -1 := fun g => by have := hBr p hp0 g; omega
      have v3 : jUp m2 45 3 (p + 1) 45 3 = p + 1 := up_same
      have v6 : jUp m2 45 3 (p + 1) 45 6 = p := by rw [up_oth (by omega)]; exact u6
      have vf : tFr m (jUp m2 45 3 (p + 1)) := tFr_up uf (by omega)
      generalize jUp m2 45 3 (p + 1) = m3 at *
      refine jK_deep (show (d + 1) + 1 ≤ d + 2 by omega) (s_isLetterC (fun hl => ⟨fun g => by omega, fun _ => ?_⟩) (fun hl => ⟨fun _ => ?_, fun g => absurd rfl g⟩))
      · have hr2 := run_in (P := fun b => decide (isLt b)) (B := B) (p := p) (by simpa using hl) (by omega)
        exact gX8_word (d + 1) (B p) m3 _ (Lword _ (60 - p).toNat (p + 1) p m3 (by omega) (by omega) (by omega) hp0 hl hr2 vf v6 v3 hK)
      · refine jK_deep (show (d + 1) + 1 ≤ d + 2 by omega) (s_isDigitC (fun hd2 => ⟨fun g => by omega, fun _ => ?_⟩) (fun hd2 => ⟨fun _ => ?_, fun g => absurd rfl g⟩))
        · have hr2 := run_in (P := fun b => decide (isDg b)) (B := B) (p := p) (by simpa using hd2) (by omega)
          have hdd : isDg (B p) := hd2
          unfold isDg at hdd
          refine gX8_digits (d + 1) (B p) m3 _ ?_
          rw [w32_id (by omega) (by omega)]
          refine Ldig _ (60 - p).toNat (p + 1) p _ (by omega) (by omega) (by omega) hp0 hd2 hr2 (tFr_up (tFr_up (tFr_up vf (by omega)) (by omega)) (by omega)) (by rw [up_oth (by omega), up_oth (by omega), up_oth (by omega)]; exact v6) (by rw [up_oth (by omega), up_oth (by omega), up_oth (by omega)]; exact v3) (by rw [up_oth (by omega), up_oth (by omega), up_same]) (by rw [up_oth (by omega), up_same]) (fun _ => ?_) (fun i i1 i2 => by rw [show i = p by omega]; exact hd2) hK
          rw [up_same, show (p + 1 - p).toNat = 1 by omega]
          show B p - 48 = 10 * 0 + B p - 48
          omega
        · refine jK_deep (show (d + 1) + 1 ≤ d + 2 by omega) (s_isSignC (fun hs => ⟨fun g => by omega, fun _ => ?_⟩) (fun hs => ⟨fun _ => ?_, fun g => absurd rfl g⟩))
          · have htk : tk B p = (5, B p, p + 1) := by
              unfold tk
              rw [if_neg hne, if_neg hl, if_neg hd2, if_pos hs]
            exact hK _ (tFr_up vf (by omega)) (cTk_i htk (by rw [up_oth (by omega)]; exact v6) (fun _ => by rw [up_oth (by omega)]; exact v3) (by rw [up_oth (by omega)]; omega) ⟨fun g => by omega, fun g => by omega, fun g => by omega, fun g => by omega, fun g => by omega, fun _ => up_same, fun g => by omega⟩) (by rw [up_oth (by omega)]; omega)
          · have htk : tk B p = (6, 0, p + 1) := by
              unfold tk
              rw [if_neg hne, if_neg hl, if_neg hd2, if_neg hs]
            exact hK _ (tFr_up vf (by omega)) (cTk_i htk (by rw [up_oth (by omega)]; exact v6) (fun g => absurd rfl g) (by rw [up_oth (by omega)]; omega) ⟨fun g => by omega, fun g => by omega, fun g => by omega, fun g => by omega, fun g => by omega, fun g => by omega, fun _ => up_same⟩) (by rw [up_oth (by omega)]; omega)
    · have htk : tk B p = (0, 0, p) := by
        unfold tk
        rw [if_pos (hBo p (by omega))]
      exact hK _ (tFr_up uf (by omega)) (cTk_i htk (by rw [up_oth (by omega)]; exact u6) (fun _ => by rw [up_oth (by omega)]; exact u3) (by rw [up_oth (by omega), u3]; exact hp0) ⟨fun _ => up_same, fun g => by omega, fun g => by omega, fun g => by omega, fun g => by omega, fun g => by omega, fun g => by omega⟩) (by rw [up_oth (by omega), u3]; exact hpn)
  -- blanks
  have L0 : ∀ (r : Nat) (e : Int) (m1 : jM), e + r = 61 → 0 ≤ e → e ≤ n → skp B a = runF (fun b => decide (b = 32)) B (61 - e).toNat e → tFr m m1 → m1 45 3 = e → aX8_step_0 (d + 2) m1 Q := by
    intro r
    have fin : ∀ (e : Int) (m1 : jM), 0 ≤ e → e ≤ n → skp B a = e → tFr m m1 → m1 45 3 = e → aX8_step_38 (d + 2) m1 Q := by
      intro e m1 he0 hen hE hf g3
      refine L38 e m1 he0 hen hf g3 (fun m' p1 p2 p3 => ?_)
      rw [← hE] at p2
      exact h m' p1 p2 p3 (by omega)
    induction r with
    | zero => intro e m1 he; omega
    | succ r ih =>
      intro e m1 he he0 hen hE hf g3
      have e46 := hf.1 46 (by omega)
      have e1 : m1 45 1 = n := by rw [hf.2 1 (by omega) (by omega) (by omega) (by omega) (by omega)]; exact h1
      refine gX8_step_0 (d + 2) m1 Q ⟨fun q => ⟨by omega, fun q2 => ?_, fun q2 => ?_⟩, fun q => ?_⟩ <;> rw [g3, e1] at q
      · rw [g3, e46, ← hBi e q] at q2
        have hr2 := run_in (P := fun b => decide (b = 32)) (B := B) (p := e) (by simpa using q2) (by omega)
        rw [g3, w32_id (by omega) (by omega)]
        exact ih (e + 1) _ (by omega) (by omega) (by omega) (by rw [hE]; exact hr2) (tFr_up hf (by omega)) up_same
      · rw [g3, e46, ← hBi e q] at q2
        rw [run_out (by simpa using q2)] at hE
        exact fin e m1 he0 hen hE hf g3
      · rw [run_out (stB e (by omega))] at hE
        exact fin e m1 he0 hen hE hf g3
  exact gX8_step (d + 2) m Q (L0 (61 - a).toNat a m (by omega) ha.1 ha.2 rfl ⟨fun _ _ => rfl, fun _ _ _ _ _ _ => rfl⟩ h3)

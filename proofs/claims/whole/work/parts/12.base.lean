/-! numbers within bounds; the small methods -/
theorem w32_id {z : Int} (h1 : -2147483648 ≤ z) (h2 : z ≤ 2147483647) : w32 z = z := by
  unfold w32
  omega
theorem w64_id {z : Int} (h1 : -9223372036854775808 ≤ z) (h2 : z ≤ 9223372036854775807) : w64 z = z := by
  unfold w64
  omega
theorem iDiv_nn {a b : Int} (h : 0 ≤ a) (h2 : a ≤ 2147483647) (hb : 0 ≤ b) : iDiv a b = a / b := by
  unfold iDiv
  rw [Int.tdiv_eq_ediv_of_nonneg h]
  have h3 : a / b ≤ a := Int.ediv_le_self b h
  have h4 : 0 ≤ a / b := Int.ediv_nonneg h hb
  exact w32_id (by omega) (by omega)
theorem iRem_nn {a b : Int} (h : 0 ≤ a) : iRem a b = a % b := by
  unfold iRem
  exact Int.tmod_eq_emod_of_nonneg h
/-- a row of the memory behind a store -/
theorem jUp_row (m : jM) (k i v q : Int) : jUp m k i v q = if q = k then (fun j => if j = i then v else m q j) else m q := by
  funext j
  unfold jUp
  by_cases h : q = k
  · by_cases h2 : j = i
    · simp [h, h2]
    · simp [h, h2]
  · simp [h]
theorem jUp_at (m : jM) (k i v q j : Int) : jUp m k i v q j = if q = k ∧ j = i then v else m q j := rfl
/-- 1 if it holds, else 0 -/
def bI (p : Prop) [Decidable p] : Int := if p then 1 else 0
theorem bI_0 {p : Prop} [Decidable p] : bI p = 0 ↔ ¬ p := by
  unfold bI
  split <;> simp_all
theorem bI_t {p : Prop} [Decidable p] (h : p) : bI p = 1 := if_pos h
theorem bI_f {p : Prop} [Decidable p] (h : ¬ p) : bI p = 0 := if_neg h
theorem s_in {d : Nat} {v a b : Int} {m : jM} {Q : Int → jM → Prop} (h : Q (bI (a ≤ v ∧ v ≤ b)) m) : jK (d + 1) zX11_in [jL v, jL a, jL b] m Q := by
  refine gX11_in d v a b m Q ⟨fun q => ?_, fun q => ⟨fun q2 => ?_, fun q2 => ?_⟩⟩
  · rw [bI_f (by omega)] at h; exact h
  · rw [bI_f (by omega)] at h; exact h
  · rw [bI_t (by omega)] at h; exact h
theorem s_isWho {d : Nat} {a b : Int} {m : jM} {Q : Int → jM → Prop} (h : Q (bI ((0 ≤ a ∧ a ≤ 1) ∧ 0 ≤ b ∧ b ≤ 7)) m) : jK (d + 2) zX11_isWho [jI a, jI b] m Q := by
  refine gX11_isWho (d + 1) a b m Q (s_in ⟨fun q => ?_, fun q => s_in ⟨fun q2 => ?_, fun q2 => ?_⟩⟩) <;> simp only [bI_0] at *
  · rw [bI_f (by omega)] at h; exact h
  · rw [bI_f (by omega)] at h; exact h
  · rw [bI_t (by omega)] at h; exact h
/-- the first n places of a row are v -/
def jFil (m : jM) (y n v : Int) : jM := fun q j => if q = y ∧ 0 ≤ j ∧ j < n then v else m q j
theorem jFil_0 (m : jM) (y v : Int) : jFil m y 0 v = m := by
  funext q j
  unfold jFil
  rw [if_neg (by omega)]
theorem jFil_s {m : jM} {y n v : Int} (hn : 0 ≤ n) : jUp (jFil m y n v) y n v = jFil m y (n + 1) v := by
  funext q j
  unfold jUp jFil
  by_cases h : q = y ∧ 0 ≤ j ∧ j < n
  · rw [if_pos (show q = y ∧ 0 ≤ j ∧ j < n + 1 by omega), if_pos h]
    split <;> rfl
  · by_cases h2 : q = y ∧ j = n
    · rw [if_pos h2, if_pos (show q = y ∧ 0 ≤ j ∧ j < n + 1 by omega)]
    · rw [if_neg h2, if_neg h, if_neg (show ¬ (q = y ∧ 0 ≤ j ∧ j < n + 1) by omega)]
theorem s_fillI {d : Nat} {n y v : Int} {m : jM} {Q : Int → jM → Prop} (hn : 0 ≤ n ∧ n ≤ 100000) (h : Q 0 (jFil m y n v)) : jK (d + 1) zJ7_fill_53178 [jY 0 n y, jI v] m Q := by
  have loop : ∀ (k : Nat) (i : Int), 0 ≤ i → i + k = n → aJ7_fill_53178_5 d n y v i n (jFil m y i v) Q := by
    intro k
    induction k with
    | zero =>
      intro i h0 hi
      refine gJ7_fill_53178_5 d n y v i n _ Q ⟨fun q => by omega, fun _ => ?_⟩
      rw [show i = n by omega]
      exact h
    | succ k ih =>
      intro i h0 hi
      refine gJ7_fill_53178_5 d n y v i n _ Q ⟨fun q => ⟨by omega, ?_⟩, fun q => by omega⟩
      rw [w32_id (by omega) (by omega), jFil_s h0]
      exact ih (i + 1) (by omega) (by omega)
  refine gJ7_fill_53178 d n y v m Q ?_
  have := loop n.toNat 0 (by omega) (by omega)
  rw [jFil_0] at this
  exact this
theorem s_fillL {d : Nat} {n y v : Int} {m : jM} {Q : Int → jM → Prop} (hn : 0 ≤ n ∧ n ≤ 100000) (h : Q 0 (jFil m y n v)) : jK (d + 1) zJ7_fill_d0a16 [jY 1 n y, jL v] m Q := by
  have loop : ∀ (k : Nat) (i : Int), 0 ≤ i → i + k = n → aJ7_fill_d0a16_6 d n y v i n (jFil m y i v) Q := by
    intro k
    induction k with
    | zero =>
      intro i h0 hi
      refine gJ7_fill_d0a16_6 d n y v i n _ Q ⟨fun q => by omega, fun _ => ?_⟩
      rw [show i = n by omega]
      exact h
    | succ k ih =>
      intro i h0 hi
      refine gJ7_fill_d0a16_6 d n y v i n _ Q ⟨fun q => ⟨by omega, ?_⟩, fun q => by omega⟩
      rw [w32_id (by omega) (by omega), jFil_s h0]
      exact ih (i + 1) (by omega) (by omega)
  refine gJ7_fill_d0a16 d n y v m Q ?_
  have := loop n.toNat 0 (by omega) (by omega)
  rw [jFil_0] at this
  exact this
theorem s_max {d : Nat} {a b : Int} {m : jM} {Q : Int → jM → Prop} (h : Q (max a b) m) : jK (d + 1) zJ9_max_f86c9 [jL a, jL b] m Q := by
  refine gJ9_max_f86c9 d a b m Q ⟨fun q => ?_, fun q => ?_⟩
  · rw [Int.max_eq_right (by omega)] at h; exact h
  · rw [Int.max_eq_left (by omega)] at h; exact h
theorem s_min {d : Nat} {a b : Int} {m : jM} {Q : Int → jM → Prop} (h : Q (min a b) m) : jK (d + 1) zJ9_min_f86c9 [jL a, jL b] m Q := by
  refine gJ9_min_f86c9 d a b m Q ⟨fun q => ?_, fun q => ?_⟩
  · rw [Int.min_eq_right (by omega)] at h; exact h
  · rw [Int.min_eq_left (by omega)] at h; exact h
theorem s_isPair {d : Nat} {a b : Int} {m : jM} {Q : Int → jM → Prop} (h : Q (bI ((0 ≤ a ∧ a ≤ 7) ∧ 0 ≤ b ∧ b ≤ 7)) m) : jK (d + 2) zX11_isPair [jI a, jI b] m Q := by
  refine gX11_isPair (d + 1) a b m Q (s_in ⟨fun q => ?_, fun q => s_in ⟨fun q2 => ?_, fun q2 => ?_⟩⟩) <;> simp only [bI_0] at *
  · rw [bI_f (by omega)] at h; exact h
  · rw [bI_f (by omega)] at h; exact h
  · rw [bI_t (by omega)] at h; exact h
theorem s_isSide {d : Nat} {a : Int} {m : jM} {Q : Int → jM → Prop} (h : Q (bI (0 ≤ a ∧ a ≤ 1)) m) : jK (d + 1) zX10_isSide [jI a] m Q := by
  refine gX10_isSide d a m Q ⟨fun q => ?_, fun q => ⟨fun q2 => ?_, fun q2 => ?_⟩⟩
  · rw [bI_t (by omega)] at h; exact h
  · rw [bI_t (by omega)] at h; exact h
  · rw [bI_f (by omega)] at h; exact h
theorem s_isSeat {d : Nat} {a : Int} {m : jM} {Q : Int → jM → Prop} (h : Q (bI (0 ≤ a ∧ a ≤ 7)) m) : jK (d + 1) zX10_isSeat [jI a] m Q := by
  refine gX10_isSeat d a m Q ⟨fun q => ?_, fun q => ⟨fun q2 => ?_, fun q2 => ?_⟩⟩
  · rw [bI_f (by omega)] at h; exact h
  · rw [bI_t (by omega)] at h; exact h
  · rw [bI_f (by omega)] at h; exact h
theorem s_isPairC {d : Nat} {a b : Int} {m : jM} {Q : Int → jM → Prop} (h : Q (bI ((0 ≤ a ∧ a ≤ 7) ∧ 0 ≤ b ∧ b ≤ 7)) m) : jK (d + 2) zX10_isPair [jI a, jI b] m Q := by
  refine gX10_isPair (d + 1) a b m Q (s_isSeat ⟨fun q => ?_, fun q => s_isSeat ⟨fun q2 => ?_, fun q2 => ?_⟩⟩) <;> simp only [bI_0] at *
  · rw [bI_f (by omega)] at h; exact h
  · rw [bI_f (by omega)] at h; exact h
  · rw [bI_t (by omega)] at h; exact h

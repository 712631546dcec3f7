/-! numbers within bounds; the small methods -/
theorem w32_id {z : Int} (h1 : -2147483648 ≤ z) (h2 : z ≤ 2147483647) : w32 z = z := by
  unfold w32
  omega
theorem w64_id {z : Int} (h1 : -9223372036854775808 ≤ z) (h2 : z ≤ 9223372036854775807) : w64 z = z := by
  unfold w64
  omega
theorem iDiv_nn {a b : Int} (h : 0 ≤ a) (h2 : a ≤ 2147483647) (hb : 0 ≤ b) : iDiv a b = a / b := by
  unfold iDiv
  rw [Int.tdiv_eq_ediv_of_nonneg h]
  have h3 : a / b ≤ a := Int.ediv_le_self b h
  have h4 : 0 ≤ a / b := Int.ediv_nonneg h hb
  exact w32_id (by omega) (by omega)
theorem iRem_nn {a b : Int} (h : 0 ≤ a) : iRem a b = a % b := by
  unfold iRem
  exact Int.tmod_eq_emod_of_nonneg h
/-- a row of the memory behind a store -/
theorem jUp_row (m : jM) (k i v q : Int) : jUp m k i v q = if q = k then (fun j => if j = i then v else m q j) else m q := by
  funext j
  unfold jUp
  by_cases h : q = k
  · by_cases h2 : j = i
    · simp [h, h2]
    · simp [h, h2]
  · simp [h]
theorem jUp_at (m : jM) (k i v q j : Int) : jUp m k i v q j = if q = k ∧ j = i then v else m q j := rfl
/-- 1 if it holds, else 0 -/
def bI (p : Prop) [Decidable p] : Int := if p then 1 else 0
theorem bI_0 {p : Prop} [Decidable p] : bI p = 0 ↔ ¬ p := by
  unfold bI
  split <;> simp_all
theorem bI_t {p : Prop} [Decidable p] (h : p) : bI p = 1 := if_pos h
theorem bI_f {p : Prop} [Decidable p] (h : ¬ p) : bI p = 0 := if_neg h
theorem s_in {d : Nat} {v a b : Int} {m : jM} {Q : Int → jM → Prop} (h : Q (bI (a ≤ v ∧ v ≤ b)) m) : jK (d + 1) zX11_in [jL v, jL a, jL b] m Q := by
  refine gX11_in d v a b m Q ⟨fun q => ?_, fun q => ⟨fun q2 => ?_, fun q2 => ?_⟩⟩
  · rw [bI_f (by omega)] at h; exact h
  · rw [bI_f (by omega)] at h; exact h
  · rw [bI_t (by omega)] at h; exact h
theorem s_isWho {d : Nat} {a b : Int} {m : jM} {Q : Int → jM → Prop} (h : Q (bI ((0 ≤ a ∧ a ≤ 1) ∧ 0 ≤ b ∧ b ≤ 7)) m) : jK (d + 2) zX11_isWho [jI a, jI b] m Q := by
  refine gX11_isWho (d + 1) a b m Q (s_in ⟨fun q => ?_, fun q => s_in ⟨fun q2 => ?_, fun q2 => ?_⟩⟩) <;> simp only [bI_0] at *
  · rw [bI_f (by omega)] at h; exact h
  · rw [bI_f (by omega)] at h; exact h
  · rw [bI_t (by omega)] at h; exact h

/-! numbers within bounds; the small methods -/
theorem w32_id {z : Int} (h1 : -2147483648 ≤ z) (h2 : z ≤ 2147483647) : w32 z = z := by
  unfold w32
  omega
theorem w64_id {z : Int} (h1 : -9223372036854775808 ≤ z) (h2 : z ≤ 9223372036854775807) : w64 z = z := by
  unfold w64
  omega
theorem w32_test (x : Int) (h : 0 ≤ x) (h2 : x < 8) : w32 (w32 (x * 8) + 1) = 8 * x + 1 := by
  unfold w32
  omega
theorem tdiv_test (x : Int) (h : 0 ≤ x) (h2 : x < 64) : iDiv x 8 = x / 8 ∧ iRem x 8 = x % 8 := by
  unfold iDiv iRem w32
  omega

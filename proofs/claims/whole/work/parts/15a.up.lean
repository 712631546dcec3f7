/-! rows of the memory behind a store -/
theorem up_ne {m : jM} {k i v q : Int} (h : ¬ q = k) : jUp m k i v q = m q := by rw [jUp_row, if_neg h]
theorem up_eq {m : jM} {k i v j : Int} : jUp m k i v k j = if j = i then v else m k j := by rw [jUp_row, if_pos rfl]
theorem up_same {m : jM} {k i v : Int} : jUp m k i v k i = v := by rw [up_eq, if_pos rfl]
theorem up_oth {m : jM} {k i v j : Int} (h : ¬ j = i) : jUp m k i v k j = m k j := by rw [up_eq, if_neg h]
theorem dpt_s (h : Int) (o : Int → Int → Bool) (b : Int → Int → Int) (C : Int → Bool) (k : Nat) (s : Int) : dpt h o b C (k + 1) s = if C (7 - k) = true then dpf h o b (dpt h o b C k) (7 - k) s 8 else dpt h o b C k s := rfl

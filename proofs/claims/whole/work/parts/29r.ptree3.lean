/-! the parser's rows are a tree: the induction -/
theorem uX_if {R1 R3 R6 R10 : jM} {lo n1 n3 n6 n10 l r t e p : Int} (h1 : uX R1 lo n1 l) (h3 : uX R3 (n1 + 1) n3 r) (H3 : ∀ f j, j < n1 + 1 → R3 f j = jUp (pRw R1 n1 12 0 p) 4 n1 l f j) (h6 : uX R6 n3 n6 t) (H6 : ∀ f j, j < n3 → R6 f j = jUp R3 5 n1 r f j) (h10 : uX R10 n6 n10 e) (H10 : ∀ f j, j < n6 → R10 f j = jUp R6 6 n1 t f j) : uX (jUp R10 7 n1 e) lo n10 n1 := by
  have k1 := uX_k h1
  have k3 := uX_k h3
  have k6 := uX_k h6
  have k10 := uX_k h10
  have w10 : ∀ g j, j < n6 → j ≠ n1 → R10 g j = R6 g j := fun g j a b => by rw [H10 g j a, up_no b]
  have w6 : ∀ g j, j < n3 → j ≠ n1 → R6 g j = R3 g j := fun g j a b => by rw [H6 g j a, up_no b]
  have w3 : ∀ g j, j < n1 → R3 g j = R1 g j := fun g j a => by rw [H3 g j (by omega), up_no (by omega), pRw_no (by omega)]
  refine uX_s ⟨by omega, by omega⟩ (fun j hj => ⟨⟨by omega, by omega⟩, Or.inr (Or.inr (Or.inr (Or.inr ⟨?_, n3, n6, ?_, ?_, ?_, ?_⟩)))⟩)
  · rw [up_fi (by omega), H10 _ _ (by omega), up_fi (by omega), H6 _ _ (by omega), up_fi (by omega), H3 _ _ (by omega), up_fi (by omega), pRw_2]
  · rw [up_fi (by omega), H10 _ _ (by omega), up_fi (by omega), H6 _ _ (by omega), up_fi (by omega), H3 _ _ (by omega), up_same]
    exact uX_c (fun f i _ _ c g => by rw [up_no (by omega), w10 f i (by omega) (by omega), w6 f i (by omega) (by omega), w3 f i (by omega)]) h1 j (by omega)
  · rw [up_fi (by omega), H10 _ _ (by omega), up_fi (by omega), H6 _ _ (by omega), up_same]
    exact uX_c (fun f i _ _ c g => by rw [up_no (by omega), w10 f i (by omega) (by omega), w6 f i (by omega) (by omega)]) h3 j (by omega)
  · rw [up_fi (by omega), H10 _ _ (by omega), up_same]
    exact uX_c (fun f i _ _ c g => by rw [up_no (by omega), w10 f i (by omega) (by omega)]) h6 j (by omega)
  · rw [up_same]
    exact uX_c (fun f i _ _ c g => by rw [up_no (by omega)]) h10 j (by omega)

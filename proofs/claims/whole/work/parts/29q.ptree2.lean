/-! the parser's rows are a tree: leaves, one below, two below a function -/
theorem uX_leaf {R : jM} {n op num p : Int} (hop : op = 0 ∨ op = 1 ∨ op = 2) : uX (pRw R n op num p) n (n + 1) n := by
  refine uX_s ⟨by omega, by omega⟩ (fun j hj => ⟨⟨by omega, by omega⟩, Or.inl ⟨?_, rfl, rfl⟩⟩)
  rw [pRw_2]; exact hop
theorem uX_one {R R3 : jM} {n n3 op num p l : Int} (hop : op = 6 ∨ op = 7) (h3 : uX R3 (n + 1) n3 l) (H3 : ∀ f j, j < n + 1 → R3 f j = pRw R n op num p f j) : uX (jUp R3 4 n l) n n3 n := by
  have k3 := uX_k h3
  refine uX_s ⟨by omega, by omega⟩ (fun j hj => ⟨⟨by omega, by omega⟩, Or.inr (Or.inl ⟨?_, rfl, ?_⟩)⟩)
  · rw [up_fi (by omega), H3 _ _ (by omega), pRw_2]; exact hop
  · rw [up_same]
    exact uX_c (fun f j _ _ c e => by rw [up_no (by omega)]) h3 j (by omega)
theorem uX_fun {R R3 R6 : jM} {n n3 n6 op num p l r : Int} (hop : 8 ≤ op ∧ op ≤ 11) (h3 : uX R3 (n + 1) n3 l) (H3 : ∀ f j, j < n + 1 → R3 f j = pRw R n op num p f j) (h6 : uX R6 n3 n6 r) (H6 : ∀ f j, j < n3 → R6 f j = jUp R3 4 n l f j) : uX (jUp R6 5 n r) n n6 n := by
  have k3 := uX_k h3
  have k6 := uX_k h6
  refine uX_s ⟨by omega, by omega⟩ (fun j hj => ⟨⟨by omega, by omega⟩, Or.inr (Or.inr (Or.inr (Or.inl ⟨?_, rfl, n3, ?_, ?_⟩)))⟩)
  · rw [up_fi (by omega), H6 _ _ (by omega), up_fi (by omega), H3 _ _ (by omega), pRw_2]; exact hop
  · rw [up_fi (by omega), H6 _ _ (by omega), up_same]
    exact uX_c (fun f j _ _ c e => by rw [up_no (by omega), H6 _ _ (by omega), up_no (by omega)]) h3 j (by omega)
  · rw [up_same]
    exact uX_c (fun f j _ _ c e => by rw [up_no (by omega)]) h6 j (by omega)

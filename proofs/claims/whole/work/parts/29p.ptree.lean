/-! the parser's rows are a tree -/
def uX (R : jM) (lo hi k : Int) : Prop := ∀ N : Nat, hi - lo ≤ (N : Int) → uT R N lo hi k
def pT (lo : Int) (r : pR) : Prop := r.1 = 2 → uX r.2.2.2.2.2 lo r.2.2.2.1 r.2.1
theorem uX_c {R R' : jM} {lo hi k : Int} (hR : ∀ f j, 2 ≤ f → f ≤ 8 → lo ≤ j → j < hi → R' f j = R f j) (h : uX R lo hi k) : uX R' lo hi k := fun N hN => uT_c N (Nat.le_refl N) hR (h N hN)
theorem uX_k {R : jM} {lo hi k : Int} (h : uX R lo hi k) : lo ≤ k ∧ k < hi := uT_lt (h (hi - lo).toNat (by omega))
theorem uX_s {R : jM} {lo hi k : Int} (hk : lo ≤ k ∧ k < hi) (h : ∀ n : Nat, hi - lo ≤ (n : Int) + 1 → uT R (n + 1) lo hi k) : uX R lo hi k := by
  intro N hN
  obtain ⟨n, rfl⟩ : ∃ n, N = n + 1 := ⟨N - 1, by omega⟩
  exact h n (by omega)
theorem pT_B {e : Int} {r : pR} {K : Int → pS → pR} (h : r.1 = 2 → pT e (K r.2.1 r.2.2)) : pT e (pB r K) := by
  unfold pB
  split
  · rename_i q; exact h q
  · rename_i q; exact fun g => absurd g q
theorem pT_F {e : Int} {s : pS} : pT e (pF s) := fun g => by unfold pF at g; dsimp only at g; omega
theorem pT_N {B : Int → Int} {e : Int} {s : pS} {op num : Int} {K : Int → pS → pR} (h : pT e (K s.2.1 (pN B (pA s op num)))) : pT e (pNew B s op num K) := by
  unfold pNew; split
  · exact h
  · exact pT_F
theorem pT_T {B : Int → Int} {e : Int} {s : pS} {x : Int} {K : pS → pR} (h : pT e (K (pN B s))) : pT e (pTk B s x K) := by
  unfold pTk; split
  · exact h
  · exact pT_F
theorem pT_O {B : Int → Int} {e : Int} {s : pS} {K : pS → pR} (h : pT e (K (pN B (qO s 1)))) : pT e (pOp B s K) := by
  unfold pOp; split
  · exact h
  · exact pT_F
theorem uX_two {R1 R3 : jM} {lo n1 n3 a r op p : Int} (hop : 3 ≤ op ∧ op ≤ 5) (h1 : uX R1 lo n1 a) (h3 : uX R3 (n1 + 1) n3 r) (H3 : ∀ f j, j < n1 + 1 → R3 f j = jUp (pRw R1 n1 op 0 p) 4 n1 a f j) : uX (jUp R3 5 n1 r) lo n3 n1 := by
  have k1 := uX_k h1
  have k3 := uX_k h3
  refine uX_s ⟨by omega, by omega⟩ (fun n hn => ⟨⟨by omega, by omega⟩, Or.inr (Or.inr (Or.inl ⟨?_, ?_, ?_⟩))⟩)
  · rw [up_fi (by omega), H3 _ _ (by omega), up_fi (by omega), pRw_2]; exact hop
  · rw [up_fi (by omega), H3 _ _ (by omega), up_same]
    exact uX_c (fun f j _ _ c e => by rw [up_no (by omega), H3 _ _ (by omega), up_no (by omega), pRw_no (by omega)]) h1 n (by omega)
  · rw [up_same]
    exact uX_c (fun f j _ _ c e => by rw [up_no (by omega)]) h3 n (by omega)

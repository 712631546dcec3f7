/-! the class's steps against the rows lo .. hi - 1 -/
def cT (R : jM) (so sa sp : Int → Int) (lo hi : Int) : Nat → Int → Int → Int → Prop
  | 0, _, _, _ => False
  | n + 1, a, b, k => (lo ≤ k ∧ k < hi) ∧
    ((R 2 k = 0 ∧ b = a + 1 ∧ so a = 1 ∧ sa a = R 3 k ∧ 0 ≤ R 3 k ∧ R 3 k ≤ 9999) ∨
    (R 2 k = 1 ∧ b = a + 1 ∧ ((R 3 k < 3 ∧ so a = 2 ∧ sa a = R 3 k) ∨ (¬ R 3 k < 3 ∧ so a = 3 ∧ sa a = R 3 k - 3)) ∧ 0 ≤ R 3 k ∧ R 3 k < 6) ∨
    (R 2 k = 2 ∧ b = a + 1 ∧ so a = 4 ∧ sa a = R 3 k ∧ 0 ≤ R 3 k ∧ R 3 k < 4) ∨
    (R 2 k = 6 ∧ ((cT R so sa sp lo hi n a (b - 1) (R 4 k) ∧ so (b - 1) = 5) ∨ ((lo ≤ R 4 k ∧ R 4 k < hi) ∧ R 2 (R 4 k) = 6 ∧ cT R so sa sp lo hi n a b (R 4 (R 4 k))))) ∨
    (R 2 k = 7 ∧ cT R so sa sp lo hi n a (b - 1) (R 4 k) ∧ so (b - 1) = 6) ∨
    (((3 ≤ R 2 k ∧ R 2 k ≤ 5) ∨ (8 ≤ R 2 k ∧ R 2 k ≤ 11)) ∧ ∃ z, cT R so sa sp lo hi n a z (R 4 k) ∧ cT R so sa sp lo hi n z (b - 1) (R 5 k) ∧ so (b - 1) = cop (R 2 k) ∧ sp (b - 1) = R 8 k) ∨
    (R 2 k = 12 ∧ ∃ x y z, cT R so sa sp lo hi n a x (R 4 k) ∧ cT R so sa sp lo hi n x y (R 5 k) ∧ so y = 14 ∧ sa y = z + 1 ∧ cT R so sa sp lo hi n (y + 1) z (R 6 k) ∧ so z = 15 ∧ sa z = b ∧ cT R so sa sp lo hi n (z + 1) b (R 7 k)))
theorem cT_cS {R : jM} {so sa sp : Int → Int} {lo hi : Int} (n : Nat) : ∀ {a b k : Int}, cT R so sa sp lo hi n a b k → cS R so sa sp n a b k := by
  induction n with
  | zero => intro a b k h; exact h.elim
  | succ n ih =>
    intro a b k h
    rcases h.2 with ⟨q, h1, h2, h3, _⟩ | ⟨q, h1, h2, _⟩ | ⟨q, h1, h2, h3, _⟩ | ⟨q, h⟩ | ⟨q, h, h'⟩ | ⟨q, z, h1, h2, h3⟩ | ⟨q, x, y, z, h1, h2, h3, h4, h5, h6, h7, h8⟩
    · exact Or.inl ⟨q, h1, h2, h3⟩
    · exact Or.inr (Or.inl ⟨q, h1, h2⟩)
    · exact Or.inr (Or.inr (Or.inl ⟨q, h1, h2, h3⟩))
    · refine Or.inr (Or.inr (Or.inr (Or.inl ⟨q, ?_⟩)))
      rcases h with h | h
      · exact Or.inl ⟨ih h.1, h.2⟩
      · exact Or.inr ⟨h.2.1, ih h.2.2⟩
    · exact Or.inr (Or.inr (Or.inr (Or.inr (Or.inl ⟨q, ih h, h'⟩))))
    · exact Or.inr (Or.inr (Or.inr (Or.inr (Or.inr (Or.inl ⟨q, z, ih h1, ih h2, h3⟩)))))
    · exact Or.inr (Or.inr (Or.inr (Or.inr (Or.inr (Or.inr ⟨q, x, y, z, ih h1, ih h2, h3, h4, ih h5, h6, h7, ih h8⟩)))))
theorem cT_lt {R : jM} {so sa sp : Int → Int} {lo hi : Int} {n : Nat} {a b k : Int} (h : cT R so sa sp lo hi n a b k) : a < b := cS_lt n (cT_cS n h)
theorem cT_c {R R' : jM} {so sa sp so' sa' sp' : Int → Int} {lo hi lo' hi' : Int} (hR : ∀ f k, 2 ≤ f → f ≤ 8 → lo ≤ k → k < hi → R' f k = R f k) (hl : lo' ≤ lo) (hh : hi ≤ hi') (n : Nat) : ∀ {n' : Nat} {a b k : Int}, n ≤ n' → (∀ i, a ≤ i → i < b → so' i = so i ∧ sa' i = sa i ∧ sp' i = sp i) → cT R so sa sp lo hi n a b k → cT R' so' sa' sp' lo' hi' n' a b k := by
  induction n with
  | zero => intro n' a b k _ _ h; exact h.elim
  | succ n ih =>
    intro n' a b k hn hs h
    obtain ⟨n', rfl⟩ : ∃ e, n' = e + 1 := ⟨n' - 1, by omega⟩
    obtain ⟨⟨k1, k2⟩, h⟩ := h
    have e2 := hR 2 k (by omega) (by omega) k1 k2
    have e3 := hR 3 k (by omega) (by omega) k1 k2
    have e4 := hR 4 k (by omega) (by omega) k1 k2
    have e5 := hR 5 k (by omega) (by omega) k1 k2
    have e6 := hR 6 k (by omega) (by omega) k1 k2
    have e7 := hR 7 k (by omega) (by omega) k1 k2
    have e8 := hR 8 k (by omega) (by omega) k1 k2
    refine ⟨⟨by omega, by omega⟩, ?_⟩
    rw [e2, e3, e4, e5, e6, e7, e8]
    rcases h with ⟨q, h1, h2, h3, h4⟩ | ⟨q, h1, h2, h3⟩ | ⟨q, h1, h2, h3, h4⟩ | ⟨q, h⟩ | ⟨q, h, h'⟩ | ⟨q, z, h1, h2, h3, h4⟩ | ⟨q, x, y, z, h1, h2, h3, h4, h5, h6, h7, h8⟩
    · obtain ⟨s1, s2, s3⟩ := hs a (by omega) (by omega)
      rw [s1, s2]
      exact Or.inl ⟨q, h1, h2, h3, h4⟩
    · obtain ⟨s1, s2, s3⟩ := hs a (by omega) (by omega)
      rw [s1, s2]
      exact Or.inr (Or.inl ⟨q, h1, h2, h3⟩)
    · obtain ⟨s1, s2, s3⟩ := hs a (by omega) (by omega)
      rw [s1, s2]
      exact Or.inr (Or.inr (Or.inl ⟨q, h1, h2, h3, h4⟩))
    · refine Or.inr (Or.inr (Or.inr (Or.inl ⟨q, ?_⟩)))
      rcases h with h | ⟨h1, h2, h3⟩
      · have := cT_lt h.1
        obtain ⟨s1, s2, s3⟩ := hs (b - 1) (by omega) (by omega)
        rw [s1]
        exact Or.inl ⟨ih (by omega) (fun i a1 a2 => hs i a1 (by omega)) h.1, h.2⟩
      · rw [hR 2 _ (by omega) (by omega) h1.1 h1.2, hR 4 _ (by omega) (by omega) h1.1 h1.2]
        exact Or.inr ⟨⟨by omega, by omega⟩, h2, ih (by omega) hs h3⟩
    · have := cT_lt h
      obtain ⟨s1, s2, s3⟩ := hs (b - 1) (by omega) (by omega)
      rw [s1]
      exact Or.inr (Or.inr (Or.inr (Or.inr (Or.inl ⟨q, ih (by omega) (fun i a1 a2 => hs i a1 (by omega)) h, h'⟩))))
    · have t1 := cT_lt h1
      have t2 := cT_lt h2
      obtain ⟨s1, s2, s3⟩ := hs (b - 1) (by omega) (by omega)
      rw [s1, s3]
      exact Or.inr (Or.inr (Or.inr (Or.inr (Or.inr (Or.inl ⟨q, z, ih (by omega) (fun i a1 a2 => hs i a1 (by omega)) h1, ih (by omega) (fun i a1 a2 => hs i (by omega) (by omega)) h2, h3, h4⟩)))))
    · have t1 := cT_lt h1
      have t2 := cT_lt h2
      have t3 := cT_lt h5
      have t4 := cT_lt h8
      obtain ⟨s1, s2, s3⟩ := hs y (by omega) (by omega)
      obtain ⟨s1', s2', s3'⟩ := hs z (by omega) (by omega)
      exact Or.inr (Or.inr (Or.inr (Or.inr (Or.inr (Or.inr ⟨q, x, y, z, ih (by omega) (fun i a1 a2 => hs i a1 (by omega)) h1, ih (by omega) (fun i a1 a2 => hs i (by omega) (by omega)) h2, by rw [s1]; exact h3, by rw [s2]; exact h4, ih (by omega) (fun i a1 a2 => hs i (by omega) (by omega)) h5, by rw [s1']; exact h6, by rw [s2']; exact h7, ih (by omega) (fun i a1 a2 => hs i (by omega) (by omega)) h8⟩)))))
/-! rows below stay -/
def pH (n0 : Int) (R0 : jM) (s : pS) : Prop := n0 ≤ s.2.1 ∧ ∀ f k, k < n0 → s.2.2.2 f k = R0 f k
theorem pH_U {n0 : Int} {R0 : jM} {s : pS} (h : pH n0 R0 s) {f k v : Int} (hk : n0 ≤ k) : pH n0 R0 (pU s f k v) := ⟨h.1, fun g j hj => by
  show jUp s.2.2.2 f k v g j = _
  unfold jUp
  rw [if_neg (by omega)]
  exact h.2 g j hj⟩
theorem pH_N {n0 : Int} {R0 : jM} {s : pS} {B : Int → Int} (h : pH n0 R0 s) : pH n0 R0 (pN B s) := h
theorem pH_O {n0 : Int} {R0 : jM} {s : pS} {v : Int} (h : pH n0 R0 s) : pH n0 R0 (qO s v) := h
theorem pH_A {n0 : Int} {R0 : jM} {s : pS} (h : pH n0 R0 s) {op num : Int} : pH n0 R0 (pA s op num) := by
  refine ⟨by have := h.1; show n0 ≤ s.2.1 + 1; omega, fun g j hj => ?_⟩
  have := h.1
  show pRw s.2.2.2 s.2.1 op num s.1 g j = _
  unfold pRw jUp
  rw [if_neg (by omega), if_neg (by omega), if_neg (by omega), if_neg (by omega), if_neg (by omega), if_neg (by omega), if_neg (by omega)]
  exact h.2 g j hj
def pHr (n0 : Int) (R0 : jM) (r : pR) : Prop := r.1 = 2 → pH n0 R0 r.2.2
theorem hB {n0 : Int} {R0 : jM} {r : pR} {K : Int → pS → pR} (h1 : pHr n0 R0 r) (h2 : ∀ k s, pH n0 R0 s → pHr n0 R0 (K k s)) : pHr n0 R0 (pB r K) := by
  unfold pB
  split
  · rename_i q; exact h2 _ _ (h1 q)
  · exact h1
theorem hF {n0 : Int} {R0 : jM} {s : pS} : pHr n0 R0 (pF s) := fun g => by unfold pF at g; dsimp only at g; omega
theorem hN {B : Int → Int} {n0 : Int} {R0 : jM} {s : pS} {op num : Int} {K : Int → pS → pR} (hs : pH n0 R0 s) (h : ∀ k s, n0 ≤ k → pH n0 R0 s → pHr n0 R0 (K k s)) : pHr n0 R0 (pNew B s op num K) := by
  unfold pNew; split
  · exact h _ _ hs.1 (pH_N (pH_A hs))
  · exact hF
theorem hTk {B : Int → Int} {n0 : Int} {R0 : jM} {s : pS} {x : Int} {K : pS → pR} (hs : pH n0 R0 s) (h : ∀ s, pH n0 R0 s → pHr n0 R0 (K s)) : pHr n0 R0 (pTk B s x K) := by
  unfold pTk; split
  · exact h _ (pH_N hs)
  · exact hF
theorem hOp {B : Int → Int} {n0 : Int} {R0 : jM} {s : pS} {K : pS → pR} (hs : pH n0 R0 s) (h : ∀ s, pH n0 R0 s → pHr n0 R0 (K s)) : pHr n0 R0 (pOp B s K) := by
  unfold pOp; split
  · exact h _ (pH_N (pH_O hs))
  · exact hF
theorem pP_h (B : Int → Int) (n0 : Int) (R0 : jM) (f : Nat) : ∀ (g a : Int) (s : pS), pH n0 R0 s → pHr n0 R0 (pP B f g a s) := by
  induction f with
  | zero => intro g a s hs h; exact absurd h (by show ¬ (0 : Int) = 2; omega)
  | succ f ih =>
    intro g a s hs
    have re : ∀ (w : Int) (g1 g2 : Int), pHr n0 R0 (pRe B w (pP B f g1 0) (pP B f g2) a s) := by
      intro w g1 g2
      have two : ∀ op : Int, pHr n0 R0 (pNew B s op 0 (fun k s => pB (pP B f g1 0 (pU s 4 k a)) (fun r s => pP B f g2 k (pU s 5 k r)))) := fun op => hN hs (fun k s hk hs => hB (ih _ _ _ (pH_U hs hk)) (fun r s hs => ih _ _ _ (pH_U hs hk)))
      unfold pRe
      split
      · split
        · exact two 3
        split
        · exact two 4
        · exact fun _ => hs
      · split
        · exact two 5
        · exact fun _ => hs
    show pHr n0 R0 (if g = 0 then pEx B (pP B f 0 0) (pP B f 1 0) s
      else if g = 1 then pB (pP B f 3 0 s) (pP B f 2)
      else if g = 2 then pRe B 0 (pP B f 3 0) (pP B f 2) a s
      else if g = 3 then pB (pP B f 5 0 s) (pP B f 4)
      else if g = 4 then pRe B 1 (pP B f 5 0) (pP B f 4) a s
      else pFa B (pP B f 0 0) (pP B f 5 0) s)
    split
    · refine hB (ih _ _ _ hs) (fun l s hs => ?_)
      split
      · exact hN hs (fun k s hk hs => hB (ih _ _ _ (pH_U hs hk)) (fun r s hs => hTk (pH_U hs hk) (fun s hs => hB (ih _ _ _ hs) (fun t s hs => hTk (pH_U hs hk) (fun s hs => hB (ih _ _ _ hs) (fun e s hs => fun _ => pH_U hs hk))))))
      · exact fun _ => hs
    split
    · exact hB (ih _ _ _ hs) (fun k s hs => ih _ _ _ hs)
    split
    · exact re 0 3 2
    split
    · exact hB (ih _ _ _ hs) (fun k s hs => ih _ _ _ hs)
    split
    · exact re 1 5 4
    unfold pFa
    have leaf : ∀ op num, pHr n0 R0 (pNew B s op num (fun k s => (2, k, s))) := fun op num => hN hs (fun k s hk hs => fun _ => hs)
    split
    · exact leaf _ _
    split
    · exact leaf _ _
    split
    · exact leaf _ _
    split
    · refine hN hs (fun k s hk hs => ?_)
      unfold pTwo
      split
      · exact hOp hs (fun s hs => hB (ih _ _ _ hs) (fun l s hs => hTk (pH_U hs hk) (fun s hs => hB (ih _ _ _ hs) (fun r s hs => hTk (pH_U hs hk) (fun s hs => fun _ => pH_O hs)))))
      · exact hF
    split
    · exact hN hs (fun k s hk hs => hB (ih _ _ _ hs) (fun l s hs => fun _ => pH_U hs hk))
    split
    · exact hOp hs (fun s hs => hB (ih _ _ _ hs) (fun v s hs => hTk hs (fun s hs => fun _ => pH_O hs)))
    split
    · split
      · exact hOp (pH_A hs) (fun s1 hs1 => hB (ih _ _ _ hs1) (fun v s2 hs2 => hTk (pH_U hs2 hs.1) (fun s3 hs3 => fun _ => pH_O hs3)))
      · exact hF
    · exact hF

/-! sums and products of the class -/
theorem c_two {B : Int → Int} {L D : Int} {m0 : jM} (hT : cTx B L D m0) {f : Nat} {A lo a op cp g1 g2 : Int} {s : pS} {m : jM} {Q : Int → jM → Prop} {G : jM → Prop} {d : Nat} {z : Nat} (hs : cPs B L D m0 s m) (h6 : (tk B s.1).1 ≠ 6) (hd : 4 ≤ d) (hA : 0 ≤ A ∧ 0 ≤ lo ∧ 2 * A ≤ 3 * lo) (hO : cO D A lo 0 m a s m) (hop : 3 ≤ op ∧ op ≤ 5) (hcp : cp = cop op)
    (hq : cPq B L D m0 A lo 0 m (pNew B s op 0 (fun k s => pB (pP B f g1 0 (pU s 4 k a)) (fun r s => pP B f g2 k (pU s 5 k r)))) Q)
    (hcall : ∀ (s : pS) (m : jM) (Q : Int → jM → Prop), cPs B L D m0 s m → cPq B L D m0 (m D 1) s.2.1 0 m (pP B f g1 0 s) Q → 0 ≤ m D 1 ∧ 2 * m D 1 ≤ 3 * s.2.1 → jK d z [jO 8 45] m Q)
    (hrest : ∀ (s1 : pS) (m' : jM) (k : Int), cPs B L D m0 s1 m' → cPq B L D m0 A lo 0 m' (pP B f g2 k s1) Q → s.2.1 + 1 ≤ s1.2.1 → cO D A lo 0 m' k s1 m' → G m') :
    jK d zX8_part [jO 8 45] m (fun v1 m1 => (v1 = 0 → Q 0 m1) ∧ (¬ v1 = 0 → jK d z [jO 8 45] m1 (fun v2 m2 => (v2 = 0 → Q 0 m2) ∧ (¬ v2 = 0 → jK d zX6_add [jO 6 (m2 45 2), jI cp, jI 0, jI (m 45 6)] m2 (fun v3 m3 => G m3))))) := by
  obtain ⟨p, n, dd, R⟩ := s
  have hN := cQ_N hq
  dsimp only at hN h6 hrest
  have hD := hT.2.2.2.2.2
  have hO' := hO
  obtain ⟨-, a2, a3, -⟩ := hO'
  dsimp only at a3
  have n24 := hs.2.2.2.2.2.2.1
  dsimp only at n24
  have e6 : m 45 6 = p := hs.2.1.1
  refine jK_deep (show 0 + 4 ≤ d by omega) (s_partC (op := op) (num := 0) hT hs h6 (fun q m1 h1 e1 e1' => ⟨fun w => by omega, fun _ => ?_⟩) (fun q m1 h1 => ⟨fun _ => hN.2 q _ h1, fun w => absurd rfl w⟩))
  have hN := hN.1 q
  dsimp only at q
  refine hcall (pU (pN B (pA (p, n, dd, R) op 0)) 4 n a) m1 _ h1 (cQ_B hN (fun o2 m2 h2 O2 hq2 => ⟨fun w => by omega, fun _ => ?_⟩) (fun p hp m' hm => ⟨fun _ => hp m' hm, fun w => absurd rfl w⟩)) ⟨by omega, by show 2 * m1 D 1 ≤ 3 * (n + 1); omega⟩
  have Hh := pP_h B (n + 1) _ f g1 0 (pU (pN B (pA (p, n, dd, R) op 0)) 4 n a) ⟨Int.le_refl _, fun _ _ _ => rfl⟩ o2
  generalize pP B f g1 0 (pU (pN B (pA (p, n, dd, R) op 0)) 4 n a) = r2 at *
  obtain ⟨_, r, p2, n2, d2, R2⟩ := r2
  dsimp only [pN, pA, pU] at *
  obtain ⟨Hn, Hh⟩ := Hh
  dsimp only at Hn Hh
  have O2' := O2
  obtain ⟨-, b2, b3, -⟩ := O2'
  dsimp only at b3
  have n24' := h2.2.2.2.2.2.2.1
  dsimp only at n24'
  refine jK_deep (show 0 + 1 ≤ d by omega) (s_addC hT h2 ⟨by omega, by omega⟩ (fun m3 h3 e45 e3 s3 v3 => ?_))
  have O3 := cO_two (op := op) hO (fun j j1 j2 => e1 (D + j) (by omega) (by omega)) e1' O2 Hh e3 s3 (by rw [v3.1]; exact hcp) (by rw [v3.2.2]; exact e6) hop
  exact hrest (p2, n2, d2, jUp R2 5 n r) m3 n h3 (cPq_re hq2 O3.1) (by omega) (cO_re O3)
theorem c_sum {B : Int → Int} {L D : Int} {m0 : jM} {f : Nat} (ih : cIH B L D m0 f) {s : pS} {m : jM} {Q : Int → jM → Prop} {d : Nat} (hs : cPs B L D m0 s m) (hq : cPq B L D m0 (m D 1) s.2.1 0 m (pB (pP B f 3 0 s) (pP B f 2)) Q) (hd : 3 * f + 11 ≤ d) (hA : 0 ≤ m D 1 ∧ 2 * m D 1 ≤ 3 * s.2.1) : jK d zX8_sum [jO 8 45] m Q := by
  obtain ⟨d, rfl⟩ : ∃ e, d = e + 1 := ⟨d - 1, by omega⟩
  refine gX8_sum d m Q (cI_3 ih hs (cQ_B hq (fun o1 m1 h1 O1 hq1 => ⟨fun w => by omega, fun _ => ?_⟩) (fun p hp m' hm => ⟨fun _ => hp m' hm, fun w => absurd rfl w⟩)) (by omega) hA)
  have n0 := hs.2.2.2.2.2.2.1.1
  have n1 := h1.2.2.2.2.2.2.1.1
  exact ih 2 _ _ m1 Q d 0 0 _ _ (by omega) (by omega) h1 (cPq_re hq1 O1.1) (by omega) ⟨by omega, n1⟩ (Or.inl rfl) ⟨hA.1, n0, by omega⟩ (Or.inr ⟨Or.inl rfl, cO_re O1⟩)
theorem c_product {B : Int → Int} {L D : Int} {m0 : jM} {f : Nat} (ih : cIH B L D m0 f) {s : pS} {m : jM} {Q : Int → jM → Prop} {d : Nat} (hs : cPs B L D m0 s m) (hq : cPq B L D m0 (m D 1) s.2.1 0 m (pB (pP B f 5 0 s) (pP B f 4)) Q) (hd : 3 * f + 11 ≤ d) (hA : 0 ≤ m D 1 ∧ 2 * m D 1 ≤ 3 * s.2.1) : jK d zX8_product [jO 8 45] m Q := by
  obtain ⟨d, rfl⟩ : ∃ e, d = e + 1 := ⟨d - 1, by omega⟩
  refine gX8_product d m Q (cI_5 ih hs (cQ_B hq (fun o1 m1 h1 O1 hq1 => ⟨fun w => by omega, fun _ => ?_⟩) (fun p hp m' hm => ⟨fun _ => hp m' hm, fun w => absurd rfl w⟩)) (by omega) hA)
  have n0 := hs.2.2.2.2.2.2.1.1
  have n1 := h1.2.2.2.2.2.2.1.1
  exact ih 4 _ _ m1 Q d 0 0 _ _ (by omega) (by omega) h1 (cPq_re hq1 O1.1) (by omega) ⟨by omega, n1⟩ (Or.inl rfl) ⟨hA.1, n0, by omega⟩ (Or.inr ⟨Or.inr rfl, cO_re O1⟩)
theorem c_rest2 {B : Int → Int} {L D : Int} {m0 : jM} (hT : cTx B L D m0) {f : Nat} (ih : cIH B L D m0 f) {A lo a x : Int} {s : pS} {m : jM} {Q : Int → jM → Prop} {d : Nat} (hs : cPs B L D m0 s m) (hq : cPq B L D m0 A lo 0 m (pRe B 0 (pP B f 3 0) (pP B f 2) a s) Q) (hd : 3 * f + 11 ≤ d) (hx : 0 ≤ x ∧ x ≤ s.2.1) (hA : 0 ≤ A ∧ 0 ≤ lo ∧ 2 * A ≤ 3 * lo) (hO : cO D A lo 0 m a s m) : aX8_sum_11 d x m Q := by
  have n24 := hs.2.2.2.2.2.2.1
  unfold pRe at hq
  rw [if_pos rfl] at hq
  have rest : ∀ (s1 : pS) (m' : jM) (k : Int), cPs B L D m0 s1 m' → cPq B L D m0 A lo 0 m' (pP B f 2 k s1) Q → s.2.1 + 1 ≤ s1.2.1 → cO D A lo 0 m' k s1 m' → aX8_sum_11 d (w32 (x + 1)) m' Q := by
    intro s1 m' k h1 h2 h3 h4
    rw [w32_id (by omega) (by omega)]
    exact ih 2 k s1 m' Q d 0 (x + 1) A lo (by omega) (by omega) h1 h2 (by omega) ⟨by omega, by omega⟩ (Or.inl rfl) ⟨hA.1, hA.2.1, by omega⟩ (Or.inr ⟨Or.inl rfl, h4⟩)
  have call : ∀ (s : pS) (m : jM) (Q : Int → jM → Prop), cPs B L D m0 s m → cPq B L D m0 (m D 1) s.2.1 0 m (pP B f 3 0 s) Q → 0 ≤ m D 1 ∧ 2 * m D 1 ≤ 3 * s.2.1 → jK d zX8_product [jO 8 45] m Q := fun s m Q h1 h2 h3 => cI_3 ih h1 h2 (by omega) h3
  refine gX8_sum_11 d x m Q ⟨fun g => by omega, fun _ => ⟨fun g => ?_, fun g => ⟨fun g2 => ?_, fun g2 => ?_⟩⟩⟩
  · have gs := (cSg hs (by omega)).1 g
    rw [if_pos gs] at hq
    exact gX8_sum_35 d x m Q ⟨fun _ => c_two hT hs (by have := gs.1; omega) (by omega) hA hO (by omega) rfl hq call rest, fun w => absurd g w⟩
  · have gs := (cSg hs (by omega)).1 g2
    rw [if_neg (fun w => g ((cSg hs (by omega)).2 w)), if_pos gs] at hq
    exact gX8_sum_35 d x m Q ⟨fun w => absurd w g, fun _ => c_two hT hs (by have := gs.1; omega) (by omega) hA hO (by omega) rfl hq call rest⟩
  · rw [if_neg (fun w => g ((cSg hs (by omega)).2 w)), if_neg (fun w => g2 ((cSg hs (by omega)).2 w))] at hq
    exact hq.2.1 rfl m hs hO
theorem c_rest4 {B : Int → Int} {L D : Int} {m0 : jM} (hT : cTx B L D m0) {f : Nat} (ih : cIH B L D m0 f) {A lo a x : Int} {s : pS} {m : jM} {Q : Int → jM → Prop} {d : Nat} (hs : cPs B L D m0 s m) (hq : cPq B L D m0 A lo 0 m (pRe B 1 (pP B f 5 0) (pP B f 4) a s) Q) (hd : 3 * f + 11 ≤ d) (hx : 0 ≤ x ∧ x ≤ s.2.1) (hA : 0 ≤ A ∧ 0 ≤ lo ∧ 2 * A ≤ 3 * lo) (hO : cO D A lo 0 m a s m) : aX8_product_11 d x m Q := by
  have n24 := hs.2.2.2.2.2.2.1
  unfold pRe at hq
  rw [if_neg (show ¬ (1 : Int) = 0 by omega)] at hq
  have rest : ∀ (s1 : pS) (m' : jM) (k : Int), cPs B L D m0 s1 m' → cPq B L D m0 A lo 0 m' (pP B f 4 k s1) Q → s.2.1 + 1 ≤ s1.2.1 → cO D A lo 0 m' k s1 m' → aX8_product_11 d (w32 (x + 1)) m' Q := by
    intro s1 m' k h1 h2 h3 h4
    rw [w32_id (by omega) (by omega)]
    exact ih 4 k s1 m' Q d 0 (x + 1) A lo (by omega) (by omega) h1 h2 (by omega) ⟨by omega, by omega⟩ (Or.inl rfl) ⟨hA.1, hA.2.1, by omega⟩ (Or.inr ⟨Or.inr rfl, h4⟩)
  have call : ∀ (s : pS) (m : jM) (Q : Int → jM → Prop), cPs B L D m0 s m → cPq B L D m0 (m D 1) s.2.1 0 m (pP B f 5 0 s) Q → 0 ≤ m D 1 ∧ 2 * m D 1 ≤ 3 * s.2.1 → jK d zX8_factor [jO 8 45] m Q := fun s m Q h1 h2 h3 => cI_5 ih h1 h2 (by omega) h3
  refine gX8_product_11 d x m Q ⟨fun g => by omega, fun _ => ⟨fun g => ?_, fun g => ?_⟩⟩
  · have gs := (cSg hs (by omega)).1 g
    rw [if_pos gs] at hq
    exact c_two hT hs (by have := gs.1; omega) (by omega) hA hO (by omega) rfl hq call rest
  · rw [if_neg (fun w => g ((cSg hs (by omega)).2 w))] at hq
    exact hq.2.1 rfl m hs hO

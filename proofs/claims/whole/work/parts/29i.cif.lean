/-! an expression of the class -/
def eqI (D : Int) (m' m : jM) (i : Int) : Prop := m' (D + 1) i = m (D + 1) i ∧ m' (D + 2) i = m (D + 2) i ∧ m' (D + 3) i = m (D + 3) i
theorem eqI_t {D i : Int} {m1 m2 m3 : jM} (h : eqI D m1 m2 i) (h' : eqI D m2 m3 i) : eqI D m1 m3 i := ⟨h.1.trans h'.1, h.2.1.trans h'.2.1, h.2.2.trans h'.2.2⟩
theorem eqI_q {D i : Int} {m1 m2 : jM} (h : ∀ j, 1 ≤ j → j ≤ 3 → m1 (D + j) = m2 (D + j)) : eqI D m1 m2 i := ⟨by rw [h 1 (by omega) (by omega)], by rw [h 2 (by omega) (by omega)], by rw [h 3 (by omega) (by omega)]⟩
theorem c_expr {B : Int → Int} {L D : Int} {m0 : jM} (hT : cTx B L D m0) {f : Nat} (ih : cIH B L D m0 f) {s : pS} {m : jM} {Q : Int → jM → Prop} {d : Nat} (hs : cPs B L D m0 s m) (hq : cPq B L D m0 (m D 1) s.2.1 0 m (pEx B (pP B f 0 0) (pP B f 1 0) s) Q) (hd : 3 * f + 11 ≤ d) (hA : 0 ≤ m D 1 ∧ 2 * m D 1 ≤ 3 * s.2.1) : jK d zX8_expr [jO 8 45] m Q := by
  obtain ⟨d, rfl⟩ : ∃ e, d = e + 1 := ⟨d - 1, by omega⟩
  have hD := hT.2.2.2.2.2
  unfold pEx at hq
  obtain ⟨p, n, dd, R⟩ := s
  have n0 := hs.2.2.2.2.2.2.1.1
  dsimp only at n0 hA
  refine gX8_expr d m Q (cI_1 ih hs (cQ_B hq (fun o1 m1 h1 O1 hq1 => ⟨fun w => by omega, fun _ => ⟨fun g => ?_, fun g => ?_⟩⟩) (fun p hp m' hm => ⟨fun _ => hp m' hm, fun w => absurd rfl w⟩)) (by omega) hA)
  · have gs := (cSg h1 (by omega)).1 g
    rw [if_pos gs] at hq1
    generalize pP B f 1 0 (p, n, dd, R) = r1 at *
    obtain ⟨_, l, p1, n1, d1, R1⟩ := r1
    dsimp only at h1 O1 hq1 gs
    have hN := cQ_N hq1
    dsimp only at hN
    have O1' := O1
    obtain ⟨O1b, O1a, O1c, O1n⟩ := O1'
    unfold cN at O1n
    rw [if_pos rfl] at O1n
    dsimp only at O1c O1n
    have n124 := h1.2.2.2.2.2.2.1
    dsimp only at n124
    refine jK_deep (show 0 + 4 ≤ d by omega) (s_partC (op := 12) (num := 0) hT h1 (by show (tk B p1).1 ≠ 6; have := gs.1; dsimp only at this; omega) (fun q m2 h2 e2 e2' => ⟨fun w => by omega, fun _ => ?_⟩) (fun q m2 h2 => ⟨fun _ => hN.2 q _ h2, fun w => absurd rfl w⟩))
    have hN := hN.1 q
    dsimp only at q
    refine cI_1 ih (s := pU (pN B (pA (p1, n1, d1, R1) 12 0)) 4 n1 l) h2 (cQ_B hN (fun o3 m3 h3 O3 hq3 => ⟨fun w => by omega, fun _ => ?_⟩) (fun p hp m' hm => ⟨fun _ => hp m' hm, fun w => absurd rfl w⟩)) (by omega) ⟨by omega, by show 2 * m2 D 1 ≤ 3 * (n1 + 1); omega⟩
    have H3 := pP_h B (n1 + 1) _ f 1 0 (pU (pN B (pA (p1, n1, d1, R1) 12 0)) 4 n1 l) ⟨Int.le_refl _, fun _ _ _ => rfl⟩ o3
    rw [cPs_D hT h3]
    generalize pP B f 1 0 (pU (pN B (pA (p1, n1, d1, R1) 12 0)) 4 n1 l) = r3 at *
    obtain ⟨_, r, p3, n3, d3, R3⟩ := r3
    obtain ⟨H3n, H3⟩ := H3
    dsimp only [pU, pN, pA] at h3 O3 hq3 H3n H3
    obtain ⟨O3b, O3a, O3c, O3n⟩ := O3
    unfold cN at O3n
    rw [if_pos rfl] at O3n
    dsimp only at O3c O3n
    rw [e2'] at O3b O3a O3c O3n
    have n324 := h3.2.2.2.2.2.2.1
    dsimp only at n324
    have hT3 := cQ_T hq3
    refine ⟨fun g3 => ?_, fun g3 => hT3.2 (fun w => g3 ((cSg (s := (p3, n3, d3, R3)) h3 (by omega)).2 w)) _ (cPs_f h3)⟩
    have gs3 := (cSg (s := (p3, n3, d3, R3)) h3 (by omega)).1 g3
    have hq4 := hT3.1 gs3
    rw [← cPs_D hT h3]
    refine jK_deep (show 0 + 1 ≤ d by omega) (s_addC hT h3 ⟨by omega, by omega⟩ (fun m4 h4 e45 e4 s4 v4 => ?_))
    rw [cPs_D hT h3]
    refine jK_deep (show 0 + 3 ≤ d by omega) (s_stepP hT h4 (by show (tk B p3).1 ≠ 6; have := gs3.1; dsimp only at this; omega) (fun m5 h5 e5 => ?_))
    have e5' : m5 D 1 = m3 D 1 + 1 := by rw [e5 D (by omega)]; exact e4
    refine cI_0 ih (s := (nx B p3, n3, d3, jUp R3 5 n1 r)) h5 (cQ_B hq4 (fun o6 m6 h6 O6 hq6 => ⟨fun w => by omega, fun _ => ?_⟩) (fun p hp m' hm => ⟨fun _ => hp m' hm, fun w => absurd rfl w⟩)) (by omega) ⟨by omega, by dsimp only; omega⟩
    have H6 := pP_h B n3 _ f 0 0 (nx B p3, n3, d3, jUp R3 5 n1 r) ⟨Int.le_refl _, fun _ _ _ => rfl⟩ o6
    dsimp only [pU, pN] at h6 O6 hq6 o6
    generalize pP B f 0 0 (nx B p3, n3, d3, jUp R3 5 n1 r) = r6 at *
    obtain ⟨_, t, p6, n6, d6, R6⟩ := r6
    obtain ⟨H6n, H6⟩ := H6
    dsimp only at h6 O6 hq6 H6n H6
    obtain ⟨O6b, O6a, O6c, O6n⟩ := O6
    unfold cN at O6n
    rw [if_pos rfl] at O6n
    dsimp only at O6c O6n
    rw [e5'] at O6b O6a O6c O6n
    have n624 := h6.2.2.2.2.2.2.1
    dsimp only at n624
    have hT6 := cQ_T hq6
    refine ⟨fun g6 => ?_, fun g6 => hT6.2 (fun w => g6 ((cSg (s := (p6, n6, d6, R6)) h6 (by omega)).2 w)) _ (cPs_f h6)⟩
    have gs6 := (cSg (s := (p6, n6, d6, R6)) h6 (by omega)).1 g6
    have hq7 := hT6.1 gs6
    have eD6 := cPs_D hT h6
    refine jK_deep (show 0 + 1 ≤ d by omega) (s_addC hT h6 ⟨by omega, by omega⟩ (fun m7 h7 e457 e7 s7 v7 => ?_))
    refine jK_deep (show 0 + 1 ≤ d by omega) (s_landC hT h7 ⟨by omega, by omega⟩ (fun m8 h8 e458 e8 r81 r83 r82 v8 => ?_))
    refine jK_deep (show 0 + 3 ≤ d by omega) (s_stepP hT h8 (by show (tk B p6).1 ≠ 6; have := gs6.1; dsimp only at this; omega) (fun m9 h9 e9 => ?_))
    have e9' : m9 D 1 = m6 D 1 + 1 := by rw [e9 D (by omega), e8]; exact e7
    refine cI_0 ih (s := (nx B p6, n6, d6, jUp R6 6 n1 t)) h9 (cQ_B hq7 (fun o10 m10 h10 O10 hq10 => ⟨fun w => by omega, fun _ => ?_⟩) (fun p hp m' hm => ⟨fun _ => hp m' hm, fun w => absurd rfl w⟩)) (by omega) ⟨by omega, by dsimp only; omega⟩
    have H10 := pP_h B n6 _ f 0 0 (nx B p6, n6, d6, jUp R6 6 n1 t) ⟨Int.le_refl _, fun _ _ _ => rfl⟩ o10
    dsimp only [pU, pN] at h10 O10 hq10 o10
    generalize pP B f 0 0 (nx B p6, n6, d6, jUp R6 6 n1 t) = r10 at *
    obtain ⟨_, e, p10, n10, d10, R10⟩ := r10
    obtain ⟨H10n, H10⟩ := H10
    dsimp only at h10 O10 hq10 H10n H10
    obtain ⟨O10b, O10a, O10c, O10n⟩ := O10
    unfold cN at O10n
    rw [if_pos rfl] at O10n
    dsimp only at O10c O10n
    rw [e9'] at O10b O10a O10c O10n
    have n1024 := h10.2.2.2.2.2.2.1
    dsimp only at n1024
    rw [eD6]
    refine jK_deep (show 0 + 1 ≤ d by omega) (s_landC hT h10 ⟨by omega, by omega⟩ (fun m11 h11 e4511 e11 r111 r113 r112 v11 => ?_))
    have x1 := cX_lt O1n
    have x3 := cX_lt O3n
    have x6 := cX_lt O6n
    have x10 := cX_lt O10n
    have y1 := cX_k O1n
    have y3 := cX_k O3n
    have y6 := cX_k O6n
    have y10 := cX_k O10n
    have k11 : ∀ i, i ≠ m6 D 1 → eqI D m11 m10 i := fun i hi => ⟨by rw [r111], r112 i hi, by rw [r113]⟩
    have k10 : ∀ i, i < m6 D 1 + 1 → eqI D m10 m9 i := fun i hi => O10b i hi
    have k9 : ∀ i, eqI D m9 m8 i := fun i => eqI_q (fun j a b => e9 _ (by omega))
    have k8 : ∀ i, i ≠ m3 D 1 → eqI D m8 m7 i := fun i hi => ⟨by rw [r81], r82 i hi, by rw [r83]⟩
    have k7 : ∀ i, i ≠ m6 D 1 → eqI D m7 m6 i := fun i hi => s7 i hi
    have k6 : ∀ i, i < m3 D 1 + 1 → eqI D m6 m5 i := fun i hi => O6b i hi
    have k5 : ∀ i, eqI D m5 m4 i := fun i => eqI_q (fun j a b => e5 _ (by omega))
    have k4 : ∀ i, i ≠ m3 D 1 → eqI D m4 m3 i := fun i hi => s4 i hi
    have k3 : ∀ i, i < m1 D 1 → eqI D m3 m2 i := fun i hi => O3b i hi
    have k2 : ∀ i, eqI D m2 m1 i := fun i => eqI_q (fun j a b => e2 _ (by omega) (by omega))
    have f6 : ∀ i, i < m6 D 1 → i ≠ m3 D 1 → eqI D m11 m6 i := fun i a b => eqI_t (k11 i (by omega)) (eqI_t (k10 i (by omega)) (eqI_t (k9 i) (eqI_t (k8 i b) (k7 i (by omega)))))
    have f3 : ∀ i, i < m3 D 1 → eqI D m11 m3 i := fun i a => eqI_t (f6 i (by omega) (by omega)) (eqI_t (k6 i (by omega)) (eqI_t (k5 i) (k4 i (by omega))))
    have f1 : ∀ i, i < m1 D 1 → eqI D m11 m1 i := fun i a => eqI_t (f3 i (by omega)) (eqI_t (k3 i a) (k2 i))
    have e1111 : m11 D 1 = m10 D 1 := by rw [e11]
    refine hq10.2.1 rfl m11 h11 ⟨fun i hi => ?_, by omega, by dsimp only; omega, ?_⟩
    · obtain ⟨a1, a2, a3⟩ := f1 i (by omega)
      obtain ⟨b1, b2, b3⟩ := O1b i hi
      exact ⟨a1.trans b1, a2.trans b2, a3.trans b3⟩
    unfold cN
    rw [if_pos rfl, e1111]
    have w10 : ∀ g j, j < n6 → j ≠ n1 → R10 g j = R6 g j := fun g j a b => by rw [H10 g j a, up_no b]
    have w6 : ∀ g j, j < n3 → j ≠ n1 → R6 g j = R3 g j := fun g j a b => by rw [H6 g j a, up_no b]
    have w3 : ∀ g j, j < n1 → R3 g j = R1 g j := fun g j a => by rw [H3 g j (by omega), up_no (by omega), pRw_no (by omega)]
    refine cX_if (lo1 := n) (hi1 := n1) (lo2 := n1 + 1) (hi2 := n3) (lo3 := n3) (hi3 := n6) (lo4 := n6) (hi4 := n10) (x := m1 D 1) (y := m3 D 1) (z := m6 D 1) (l := l) (r := r) (t := t) (e := e) ⟨by first | omega | (dsimp only; omega), by first | omega | (dsimp only; omega)⟩ ⟨by first | omega | (dsimp only; omega), by first | omega | (dsimp only; omega), by first | omega | (dsimp only; omega)⟩ ⟨by first | omega | (dsimp only; omega), by first | omega | (dsimp only; omega), by first | omega | (dsimp only; omega)⟩ ⟨by first | omega | (dsimp only; omega), by first | omega | (dsimp only; omega), by first | omega | (dsimp only; omega)⟩ ⟨by first | omega | (dsimp only; omega), by first | omega | (dsimp only; omega), by first | omega | (dsimp only; omega)⟩ (cX_c (fun f j _ _ c e => ?_) (fun i c e => f1 i e) O1n) (cX_c (fun f j _ _ c e => ?_) (fun i c e => f3 i e) O3n) (cX_c (fun f j _ _ c e => ?_) (fun i c e => f6 i e (by omega)) O6n) (cX_c (fun f j _ _ c e => ?_) (fun i c e => k11 i (by omega)) O10n) ?_ ?_ ?_ ?_ ?_ ?_ ?_ ?_ ?_
    · show jUp R10 7 n1 _ f j = R1 f j
      rw [up_no (by omega), w10 f j (by omega) (by omega), w6 f j (by omega) (by omega), w3 f j (by omega)]
    · show jUp R10 7 n1 _ f j = R3 f j
      rw [up_no (by omega), w10 f j (by omega) (by omega), w6 f j (by omega) (by omega)]
    · show jUp R10 7 n1 _ f j = R6 f j
      rw [up_no (by omega), w10 f j (by omega) (by omega)]
    · show jUp R10 7 n1 _ f j = R10 f j
      rw [up_no (by omega)]
    · show jUp R10 7 n1 e 2 n1 = 12
      rw [up_fi (by omega), H10 _ _ (by omega), up_fi (by omega), H6 _ _ (by omega), up_fi (by omega), H3 _ _ (by omega), up_fi (by omega), pRw_2]
    · show jUp R10 7 n1 e 4 n1 = l
      rw [up_fi (by omega), H10 _ _ (by omega), up_fi (by omega), H6 _ _ (by omega), up_fi (by omega), H3 _ _ (by omega), up_same]
    · show jUp R10 7 n1 e 5 n1 = r
      rw [up_fi (by omega), H10 _ _ (by omega), up_fi (by omega), H6 _ _ (by omega), up_same]
    · show jUp R10 7 n1 e 6 n1 = t
      rw [up_fi (by omega), H10 _ _ (by omega), up_same]
    · exact up_same
    · rw [(k11 _ (by omega)).1, (k10 _ (by omega)).1, (k9 _).1, r81, (k7 _ (by omega)).1, (k6 _ (by omega)).1, (k5 _).1]
      exact v4.1
    · rw [(k11 _ (by omega)).2.1, (k10 _ (by omega)).2.1, (k9 _).2.1, v8]
      exact e7
    · rw [r111, (k10 _ (by omega)).1, (k9 _).1, r81]
      exact v7.1
    · exact v11
  · rw [if_neg (fun w => g ((cSg h1 (by omega)).2 w))] at hq1
    exact hq1.2.1 rfl m1 h1 O1

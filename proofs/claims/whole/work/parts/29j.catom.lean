/-! atoms of the class -/
theorem runF_in {P : Int → Bool} {B : Int → Int} (r : Nat) : ∀ (p i : Int), p ≤ i → i < runF P B r p → P (B i) = true := by
  induction r with
  | zero => intro p i h1 h2; exfalso; change i < p at h2; omega
  | succ r ih =>
    intro p i h1 h2
    rw [runF_s] at h2
    split at h2
    · rename_i g
      by_cases e : i = p
      · rw [e]; exact g
      · exact ih (p + 1) i (by omega) h2
    · exfalso; omega
theorem dgV_b2 {B : Int → Int} (r : Nat) : ∀ (p v k : Int), (∀ i : Int, p ≤ i → i < p + r → isDg (B i)) → 0 ≤ v → v ≤ k - 1 → 0 ≤ dgV B r p v ∧ dgV B r p v ≤ k * 10 ^ r - 1 := by
  induction r with
  | zero => intro p v k _ h0 hv; show 0 ≤ v ∧ v ≤ k * 10 ^ 0 - 1; omega
  | succ r ih =>
    intro p v k hd h0 hv
    have := hd p (by omega) (by omega)
    unfold isDg at this
    have w := ih (p + 1) (10 * v + B p - 48) (10 * k) (fun i a b => hd i (by omega) (by omega)) (by omega) (by omega)
    show 0 ≤ dgV B r (p + 1) (10 * v + B p - 48) ∧ dgV B r (p + 1) (10 * v + B p - 48) ≤ k * 10 ^ (r + 1) - 1
    rw [show k * 10 ^ (r + 1) = 10 * k * 10 ^ r by rw [Int.pow_succ, Int.mul_comm 10 k, Int.mul_assoc, Int.mul_comm 10]]
    exact w
theorem tk_num {B : Int → Int} {p : Int} (h : (tk B p).1 = 1) : 0 ≤ (tk B p).2.1 ∧ (tk B p).2.1 ≤ 9999 := by
  have hp : p ≤ dgs B p := run_ge p
  have key : ¬ p + 4 < dgs B p → 0 ≤ dgV B (dgs B p - p).toNat p 0 ∧ dgV B (dgs B p - p).toNat p 0 ≤ 9999 := by
    intro g
    have w := dgV_b2 (B := B) (dgs B p - p).toNat p 0 1 (fun i a b => by
      have := runF_in (P := fun b => decide (isDg b)) (B := B) (61 - p).toNat p i a (by show i < dgs B p; omega)
      simpa using this) (by omega) (by omega)
    have hr : (dgs B p - p).toNat = 0 ∨ (dgs B p - p).toNat = 1 ∨ (dgs B p - p).toNat = 2 ∨ (dgs B p - p).toNat = 3 ∨ (dgs B p - p).toNat = 4 := by omega
    rcases hr with e | e | e | e | e <;> rw [e] at w ⊢ <;> omega
  revert h
  unfold tk
  (repeat' split) <;> intro h <;> dsimp only at h ⊢ <;> first | omega | exact key (by assumption)
theorem c_leaf {B : Int → Int} {L D : Int} {m0 : jM} (hT : cTx B L D m0) {op num : Int} {s : pS} {m : jM} {Q : Int → jM → Prop} {d : Nat} (hs : cPs B L D m0 s m) (h6 : (tk B s.1).1 ≠ 6) (hd : 4 ≤ d) (hA : 0 ≤ m D 1 ∧ 2 * m D 1 ≤ 3 * s.2.1) (hq : cPq B L D m0 (m D 1) s.2.1 0 m (pNew B s op num (fun k s => (2, k, s))) Q)
    (hv : (op = 0 ∧ m 45 7 = 1 ∧ m 45 8 = num ∧ 0 ≤ num ∧ num ≤ 9999) ∨ (op = 1 ∧ ((num < 3 ∧ m 45 7 = 2 ∧ m 45 8 = num) ∨ (¬ num < 3 ∧ m 45 7 = 3 ∧ m 45 8 = num - 3)) ∧ 0 ≤ num ∧ num < 6) ∨ (op = 2 ∧ m 45 7 = 4 ∧ m 45 8 = num ∧ 0 ≤ num ∧ num < 4)) :
    jK d zX6_add [jO 6 (m 45 2), jI (m 45 7), jI (m 45 8), jI (m 45 6)] m (fun _ m1 => jK d zX8_part [jO 8 45] m1 (fun v2 m2 => if v2 = 0 ∨ v2 = 1 then Q v2 m2 else False)) := by
  obtain ⟨p, n, dd, R⟩ := s
  have hD := hT.2.2.2.2.2
  have n24 := hs.2.2.2.2.2.2.1
  have hN := cQ_N hq
  dsimp only at n24 hA hN
  refine jK_deep (show 0 + 1 ≤ d by omega) (s_addC hT hs ⟨by omega, by omega⟩ (fun m1 h1 e45 e1 s1 v1 => ?_))
  refine jK_deep (show 0 + 4 ≤ d by omega) (s_partC (op := op) (num := num) hT h1 h6 (fun q m2 h2 e2 e2' => ?_) (fun q m2 h2 => ?_))
  · rw [if_pos (Or.inr rfl)]
    dsimp only at q
    have e21 : m2 (D + 1) = m1 (D + 1) := e2 _ (by omega) (by omega)
    have e22 : m2 (D + 2) = m1 (D + 2) := e2 _ (by omega) (by omega)
    have e23 : m2 (D + 3) = m1 (D + 3) := e2 _ (by omega) (by omega)
    refine (hN.1 q).2.1 rfl m2 h2 ⟨fun i hi => ?_, by omega, ?_, ?_⟩
    · rw [e21, e22, e23]; exact s1 i (by omega)
    · show 2 * (m2 D 1 - m D 1) + 1 ≤ 3 * (n + 1 - n) + 2 * 0
      omega
    unfold cN
    rw [if_pos rfl, e2', e1, e21, e22, e23]
    refine cX_s ⟨Int.le_refl n, by show n < n + 1; omega⟩ (fun j hj => ⟨⟨Int.le_refl n, by show n < n + 1; omega⟩, ?_⟩)
    show ((pRw R n op num p 2 n = 0 ∧ _ ∧ _ ∧ _ = pRw R n op num p 3 n ∧ 0 ≤ pRw R n op num p 3 n ∧ pRw R n op num p 3 n ≤ 9999) ∨ (pRw R n op num p 2 n = 1 ∧ _ ∧ ((pRw R n op num p 3 n < 3 ∧ _ ∧ _ = pRw R n op num p 3 n) ∨ (¬ pRw R n op num p 3 n < 3 ∧ _ ∧ _ = pRw R n op num p 3 n - 3)) ∧ 0 ≤ pRw R n op num p 3 n ∧ pRw R n op num p 3 n < 6) ∨ (pRw R n op num p 2 n = 2 ∧ _ ∧ _ ∧ _ = pRw R n op num p 3 n ∧ 0 ≤ pRw R n op num p 3 n ∧ pRw R n op num p 3 n < 4) ∨ _)
    rw [pRw_2, pRw_3, v1.1, v1.2.1]
    rcases hv with ⟨a, b, c, e⟩ | ⟨a, b, c⟩ | ⟨a, b, c, e⟩
    · exact Or.inl ⟨a, rfl, b, c, e⟩
    · exact Or.inr (Or.inl ⟨a, rfl, b, c⟩)
    · exact Or.inr (Or.inr (Or.inl ⟨a, rfl, b, c, e⟩))
  · rw [if_pos (Or.inl rfl)]
    exact hN.2 q _ h2
theorem c_fun {B : Int → Int} {L D : Int} {m0 : jM} (hT : cTx B L D m0) {f : Nat} (ih : cIH B L D m0 f) {v : Int} {s : pS} {m : jM} {Q : Int → jM → Prop} {d : Nat} (hs : cPs B L D m0 s m) (h6 : (tk B s.1).1 ≠ 6) (hv : m 45 7 = v + 2 ∧ 8 ≤ v ∧ v ≤ 11) (hd : 3 * f + 9 ≤ d) (hA : 0 ≤ m D 1 ∧ 2 * m D 1 ≤ 3 * s.2.1) (hq : cPq B L D m0 (m D 1) s.2.1 0 m (pNew B s v 0 (pTwo B (pP B f 0 0))) Q) : jK d zX8_function [jO 8 45] m Q := by
  obtain ⟨d, rfl⟩ : ∃ e, d = e + 1 := ⟨d - 1, by omega⟩
  obtain ⟨p, n, dd, R⟩ := s
  have hD := hT.2.2.2.2.2
  have n24 := hs.2.2.2.2.2.2.1
  have hN := cQ_N hq
  dsimp only at n24 hA hN h6
  have e6 : m 45 6 = p := hs.2.1.1
  refine gX8_function d m Q (jK_deep (show 0 + 4 ≤ d by omega) (s_partC (op := v) (num := 0) hT hs h6 (fun q m1 h1 e1 e1' => ⟨fun w => by omega, fun _ => ?_⟩) (fun q m1 h1 => ⟨fun _ => hN.2 q _ h1, fun w => absurd rfl w⟩)))
  have hN := hN.1 q
  dsimp only at q
  unfold pTwo at hN
  refine ⟨fun g => ?_, fun g => ?_⟩
  · have gs := (cSg h1 (by omega)).1 g
    rw [if_pos gs] at hN
    have hO := cQ_O hN
    have dd5 := hs.2.2.2.2.2.2.2
    dsimp only at dd5
    refine jK_deep (show 0 + 4 ≤ d by omega) (s_enterC hT h1 gs (fun q2 m2 h2 e2 => ⟨fun w => by omega, fun _ => ?_⟩) (fun q2 m2 h2 => ⟨fun _ => hO.2 q2 _ h2, fun w => absurd rfl w⟩))
    have hO := hO.1 q2
    have e2' : m2 D 1 = m D 1 := by rw [e2 D (by omega)]; exact e1'
    refine cI_0 ih h2 (cQ_B hO (fun o3 m3 h3 O3 hq3 => ⟨fun w => by omega, fun _ => ?_⟩) (fun p hp m' hm => ⟨fun _ => hp m' hm, fun w => absurd rfl w⟩)) (by omega) ⟨by omega, by show 2 * m2 D 1 ≤ 3 * (n + 1); omega⟩
    have H3 := pP_h B (n + 1) _ f 0 0 (pN B (qO (pN B (pA (p, n, dd, R) v 0)) 1)) ⟨Int.le_refl _, fun _ _ _ => rfl⟩ o3
    have D3 := pP_d B f 0 0 (pN B (qO (pN B (pA (p, n, dd, R) v 0)) 1)) o3
    generalize pP B f 0 0 (pN B (qO (pN B (pA (p, n, dd, R) v 0)) 1)) = r3 at *
    obtain ⟨_, l, p3, n3, d3, R3⟩ := r3
    obtain ⟨H3n, H3⟩ := H3
    dsimp only [pU, pN, pA, qO] at h3 O3 hq3 H3n H3 D3
    obtain ⟨O3b, O3a, O3c, O3n⟩ := O3
    unfold cN at O3n
    rw [if_pos rfl] at O3n
    dsimp only at O3c O3n
    rw [e2'] at O3b O3a O3c O3n
    have n324 := h3.2.2.2.2.2.2.1
    dsimp only at n324
    have hT3 := cQ_T hq3
    refine ⟨fun g3 => ?_, fun g3 => hT3.2 (fun w => g3 ((cSg (s := (p3, n3, d3, R3)) h3 (by omega)).2 w)) _ (cPs_f h3)⟩
    have gs3 := (cSg (s := (p3, n3, d3, R3)) h3 (by omega)).1 g3
    have hq4 := hT3.1 gs3
    refine jK_deep (show 0 + 3 ≤ d by omega) (s_stepP hT h3 (by show (tk B p3).1 ≠ 6; have := gs3.1; dsimp only at this; omega) (fun m5 h5 e5 => ?_))
    have e5' : m5 D 1 = m3 D 1 := by rw [e5 D (by omega)]
    refine cI_0 ih (s := (nx B p3, n3, d3, jUp R3 4 n l)) h5 (cQ_B hq4 (fun o6 m6 h6 O6 hq6 => ⟨fun w => by omega, fun _ => ?_⟩) (fun p hp m' hm => ⟨fun _ => hp m' hm, fun w => absurd rfl w⟩)) (by omega) ⟨by omega, by dsimp only; omega⟩
    have H6 := pP_h B n3 _ f 0 0 (nx B p3, n3, d3, jUp R3 4 n l) ⟨Int.le_refl _, fun _ _ _ => rfl⟩ o6
    have D6 := pP_d B f 0 0 (nx B p3, n3, d3, jUp R3 4 n l) o6
    dsimp only [pU, pN] at h6 O6 hq6 o6
    generalize pP B f 0 0 (nx B p3, n3, d3, jUp R3 4 n l) = r6 at *
    obtain ⟨_, r, p6, n6, d6, R6⟩ := r6
    obtain ⟨H6n, H6⟩ := H6
    dsimp only at h6 O6 hq6 H6n H6 D6
    obtain ⟨O6b, O6a, O6c, O6n⟩ := O6
    unfold cN at O6n
    rw [if_pos rfl] at O6n
    dsimp only at O6c O6n
    rw [e5'] at O6b O6a O6c O6n
    have n624 := h6.2.2.2.2.2.2.1
    dsimp only at n624
    have hT6 := cQ_T hq6
    refine jK_deep (show 0 + 4 ≤ d by omega) (s_leaveC (x := 41) hT h6 (by omega) (by dsimp only; omega) (fun g7 m7 h7 e7 => ⟨fun w => by omega, fun _ => ?_⟩) (fun g7 m7 h7 => ⟨fun _ => hT6.2 g7 _ h7, fun w => absurd rfl w⟩))
    have hq7 := hT6.1 g7
    have e7' : m7 D 1 = m6 D 1 := by rw [e7 D (by omega)]
    refine jK_deep (show 0 + 1 ≤ d by omega) (s_addC hT h7 ⟨by omega, by omega⟩ (fun m8 h8 e458 e8 s8 v8 => ?_))
    have x3 := cX_lt O3n
    have x6 := cX_lt O6n
    have y3 := cX_k O3n
    have y6 := cX_k O6n
    have k8 : ∀ i, i ≠ m6 D 1 → eqI D m8 m7 i := fun i hi => s8 i (by rw [e7']; exact hi)
    have k7 : ∀ i, eqI D m7 m6 i := fun i => eqI_q (fun j a b => e7 _ (by omega))
    have k6 : ∀ i, i < m3 D 1 → eqI D m6 m5 i := fun i hi => O6b i hi
    have k5 : ∀ i, eqI D m5 m3 i := fun i => eqI_q (fun j a b => e5 _ (by omega))
    have k3 : ∀ i, i < m D 1 → eqI D m3 m2 i := fun i hi => O3b i hi
    have k2 : ∀ i, eqI D m2 m i := fun i => eqI_q (fun j a b => by rw [e2 _ (by omega), e1 _ (by omega) (by omega)])
    have f6 : ∀ i, i < m6 D 1 → eqI D m8 m6 i := fun i a => eqI_t (k8 i (by omega)) (k7 i)
    have f3 : ∀ i, i < m3 D 1 → eqI D m8 m3 i := fun i a => eqI_t (f6 i (by omega)) (eqI_t (k6 i a) (k5 i))
    refine hq7.2.1 rfl m8 h8 ⟨fun i hi => eqI_t (f3 i (by omega)) (eqI_t (k3 i hi) (k2 i)), by omega, ?_, ?_⟩
    · show 2 * (m8 D 1 - m D 1) + 1 ≤ 3 * (n6 - n) + 2 * 0
      omega
    unfold cN
    rw [if_pos rfl, e8, e7']
    rw [e7'] at v8
    have k2' : jUp R6 5 n r 2 n = v := by rw [up_fi (by omega), H6 _ _ (by omega), up_fi (by omega), H3 _ _ (by omega), pRw_2]
    refine cX_two (lo := n) (hi := n6) (k := n) (lo1 := n + 1) (hi1 := n3) (lo2 := n3) (hi2 := n6) (z := m3 D 1) (l := l) (r := r) ⟨by omega, by omega⟩ ⟨by omega, by omega, by omega⟩ ⟨by omega, by omega, by omega⟩ (cX_c (fun f j _ _ c e => ?_) (fun i c e => f3 i e) O3n) (cX_c (fun f j _ _ c e => ?_) (fun i c e => f6 i e) O6n) ?_ ?_ ?_ ?_ ?_
    · show jUp R6 5 n r f j = R3 f j
      rw [up_no (by omega), H6 _ _ (by omega), up_no (by omega)]
    · show jUp R6 5 n r f j = R6 f j
      rw [up_no (by omega)]
    · show (3 ≤ jUp R6 5 n r 2 n ∧ jUp R6 5 n r 2 n ≤ 5) ∨ (8 ≤ jUp R6 5 n r 2 n ∧ jUp R6 5 n r 2 n ≤ 11)
      rw [k2']; omega
    · show jUp R6 5 n r 4 n = l
      rw [up_fi (by omega), H6 _ _ (by omega), up_same]
    · exact up_same
    · show m8 (D + 1) (m6 D 1) = cop (jUp R6 5 n r 2 n)
      rw [k2', v8.1, hv.1]
      unfold cop
      rw [if_neg (by omega)]
    · show m8 (D + 3) (m6 D 1) = jUp R6 5 n r 8 n
      rw [up_fi (by omega), H6 _ _ (by omega), up_fi (by omega), H3 _ _ (by omega), pRw_8, v8.2.2]
      exact e6
  · rw [if_neg (fun w => g ((cSg h1 (by omega)).2 w))] at hN
    exact cQ_F hN _ (cPs_f h1)

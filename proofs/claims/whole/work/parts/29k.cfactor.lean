/-! factors of the class, and its parser whole -/
theorem c_atom {B : Int → Int} {L D : Int} {m0 : jM} (hT : cTx B L D m0) {f : Nat} (ih : cIH B L D m0 f) {s : pS} {m : jM} {Q : Int → jM → Prop} {d : Nat} (hs : cPs B L D m0 s m) (h45 : ¬ isS B s 45) (hd : 3 * f + 10 ≤ d) (hA : 0 ≤ m D 1 ∧ 2 * m D 1 ≤ 3 * s.2.1) (hq : cPq B L D m0 (m D 1) s.2.1 0 m (pFa B (pP B f 0 0) (pP B f 5 0) s) Q) : jK d zX8_atom [jO 8 45] m Q := by
  obtain ⟨d, rfl⟩ : ∃ e, d = e + 1 := ⟨d - 1, by omega⟩
  have hD := hT.2.2.2.2.2
  obtain ⟨kr, k2, k3, k4⟩ := tk_r B s.1
  have k1 := tk_num (B := B) (p := s.1)
  have n24 := hs.2.2.2.2.2.2.1
  have dd5 := hs.2.2.2.2.2.2.2
  obtain ⟨t6, t3, t30, t0, t1, t2, tt3, t4, t5, tt6⟩ := hs.2.1
  unfold pFa at hq
  refine gX8_atom d m Q ⟨fun g => ?_, fun g => ?_, fun g => ?_, fun g => ?_, fun g => ?_, trivial⟩
  · have e : (tk B s.1).1 = 1 ∨ (tk B s.1).1 = 2 ∨ (tk B s.1).1 = 3 ∨ ((tk B s.1).1 = 5 ∧ (tk B s.1).2.1 = 1) := by
      rcases kr with e | e | e | e | e | e | e
      · have := t0 e; omega
      · exact Or.inl e
      · exact Or.inr (Or.inl e)
      · exact Or.inr (Or.inr (Or.inl e))
      · have := (t4 e).1; omega
      · exact Or.inr (Or.inr (Or.inr ⟨e, by rw [← t5 e]; exact g⟩))
      · have := tt6 e; omega
    rcases e with e | e | e | e
    · rw [if_pos e] at hq
      exact c_leaf hT hs (by omega) (by omega) hA hq (Or.inl ⟨rfl, (t1 e).2.1, (t1 e).2.2, k1 e⟩)
    · rw [if_neg (by omega), if_pos e] at hq
      have t2' := (t2 e).2
      refine c_leaf hT hs (by omega) (by omega) hA hq (Or.inr (Or.inl ⟨rfl, ?_, k2 e⟩))
      by_cases w : (tk B s.1).2.1 < 3
      · rw [if_pos w] at t2'; exact Or.inl ⟨w, t2'⟩
      · rw [if_neg w] at t2'; exact Or.inr ⟨w, t2'⟩
    · rw [if_neg (by omega), if_neg (by omega), if_pos e] at hq
      exact c_leaf hT hs (by omega) (by omega) hA hq (Or.inr (Or.inr ⟨rfl, (tt3 e).2.1, (tt3 e).2.2, k3 e⟩))
    · exfalso
      have h1 := e.1
      have h2 := e.2
      revert h1 h2
      unfold tk isSg
      (repeat' split) <;> intro h1 h2 <;> dsimp only at h1 h2 <;> omega
  · have e : (tk B s.1).1 = 4 ∨ ((tk B s.1).1 = 5 ∧ (tk B s.1).2.1 = 2) := by
      rcases kr with e | e | e | e | e | e | e
      · have := t0 e; omega
      · have := (t1 e).1; omega
      · have := (t2 e).1; omega
      · have := (tt3 e).1; omega
      · exact Or.inl e
      · exact Or.inr ⟨e, by rw [← t5 e]; exact g⟩
      · have := tt6 e; omega
    rcases e with e | e
    · rw [if_neg (by omega), if_neg (by omega), if_neg (by omega), if_pos e] at hq
      have w := c_fun hT ih hs (by omega) ⟨(t4 e).2, by have := k4 e; omega⟩ (d := d) (by omega) hA (Q := fun v3 m3 => if v3 = 0 ∨ v3 = 1 then Q v3 m3 else False) ⟨hq.1, fun a m' b c => by dsimp only; rw [if_pos (Or.inr rfl)]; exact hq.2.1 a m' b c, fun a m' b => by dsimp only; rw [if_pos (Or.inl rfl)]; exact hq.2.2 a m' b⟩
      exact w
    · exfalso
      have h1 := e.1
      have h2 := e.2
      revert h1 h2
      unfold tk isSg
      (repeat' split) <;> intro h1 h2 <;> dsimp only at h1 h2 <;> omega
  · have gs := (cSg hs (by omega)).1 g
    have g1 := gs.1
    rw [if_neg (by omega), if_neg (by omega), if_neg (by omega), if_neg (by omega), if_neg h45, if_pos gs] at hq
    have hO := cQ_O hq
    refine jK_deep (show 0 + 4 ≤ d by omega) (s_enterC hT hs gs (fun q2 m2 h2 e2 => ⟨fun w => by omega, fun _ => ?_⟩) (fun q2 m2 h2 => ⟨fun _ => hO.2 q2 _ h2, fun w => absurd rfl w⟩))
    have hO := hO.1 q2
    have e2' : m2 D 1 = m D 1 := by rw [e2 D (by omega)]
    refine cI_0 ih h2 (cQ_B hO (fun o3 m3 h3 O3 hq3 => ⟨fun w => by omega, fun _ => ?_⟩) (fun p hp m' hm => ⟨fun _ => hp m' hm, fun w => absurd rfl w⟩)) (by omega) ⟨by omega, by show 2 * m2 D 1 ≤ 3 * s.2.1; omega⟩
    have D3 := pP_d B f 0 0 (pN B (qO s 1)) o3
    have hT3 := cQ_T hq3
    refine jK_deep (show 0 + 4 ≤ d by omega) (s_leaveC (x := 41) hT h3 (by omega) (by dsimp only [pN, qO] at D3 ⊢; omega) (fun g7 m7 h7 e7 => ⟨fun w => by omega, fun _ => ?_⟩) (fun g7 m7 h7 => ⟨fun _ => hT3.2 g7 _ h7, fun w => absurd rfl w⟩))
    have hq7 := hT3.1 g7
    obtain ⟨a1, a2, a3, a4⟩ := O3
    have r1 : ∀ j, 1 ≤ j → j ≤ 3 → m7 (D + j) = m3 (D + j) := fun j _ _ => e7 _ (by omega)
    have e7' : m7 D 1 = m3 D 1 := by rw [e7 D (by omega)]
    rw [e2'] at a1 a2 a3 a4
    refine hq7.2.1 rfl m7 h7 ⟨fun i hi => eqI_t (eqI_q r1) (eqI_t (a1 i hi) (eqI_q (fun j a b => e2 _ (by omega)))), by omega, by rw [e7']; exact a3, ?_⟩
    rw [r1 1 (by omega) (by omega), r1 2 (by omega) (by omega), r1 3 (by omega) (by omega), e7']
    exact a4
  · have gs := (cSg hs (by omega)).1 g
    have g1 := gs.1
    rw [if_neg (by omega), if_neg (by omega), if_neg (by omega), if_neg (by omega), if_neg h45, if_neg (fun w => by have := w.2; have := gs.2; omega), if_pos gs] at hq
    have e0 : m (m 45 2) 0 = s.2.1 := by rw [cPs_D hT hs]; exact hs.2.2.2.2.1
    rw [e0]
    refine ⟨fun q => ?_, fun q => ?_⟩
    · rw [if_pos q] at hq
      have hO := cQ_O hq
      refine jK_deep (show 0 + 4 ≤ d by omega) (s_enterB (op := 7) (num := 0) hT hs gs q (fun q2 m2 h2 e2 e2' => ⟨fun w => by omega, fun _ => ?_⟩) (fun q2 m2 h2 => ⟨fun _ => hO.2 q2 _ h2, fun w => absurd rfl w⟩))
      have hO := hO.1 q2
      refine cI_0 ih h2 (cQ_B hO (fun o3 m3 h3 O3 hq3 => ⟨fun w => by omega, fun _ => ?_⟩) (fun p hp m' hm => ⟨fun _ => hp m' hm, fun w => absurd rfl w⟩)) (by omega) ⟨by omega, by show 2 * m2 D 1 ≤ 3 * (s.2.1 + 1); omega⟩
      have H3 := pP_h B (s.2.1 + 1) _ f 0 0 (pN B (qO (pA s 7 0) 1)) ⟨Int.le_refl _, fun _ _ _ => rfl⟩ o3
      have D3 := pP_d B f 0 0 (pN B (qO (pA s 7 0) 1)) o3
      generalize pP B f 0 0 (pN B (qO (pA s 7 0) 1)) = r3 at *
      obtain ⟨_, l, p3, n3, d3, R3⟩ := r3
      obtain ⟨H3n, H3⟩ := H3
      dsimp only [pU, pN, pA, qO] at h3 O3 hq3 H3n H3 D3
      obtain ⟨O3b, O3a, O3c, O3n⟩ := O3
      unfold cN at O3n
      rw [if_pos rfl] at O3n
      dsimp only at O3c O3n
      rw [e2'] at O3b O3a O3c O3n
      have n324 := h3.2.2.2.2.2.2.1
      dsimp only at n324
      have hT3 := cQ_T hq3
      refine jK_deep (show 0 + 4 ≤ d by omega) (s_leaveC (x := 124) hT h3 (by omega) (by dsimp only; omega) (fun g7 m7 h7 e7 => ⟨fun w => by omega, fun _ => ?_⟩) (fun g7 m7 h7 => ⟨fun _ => hT3.2 g7 _ h7, fun w => absurd rfl w⟩))
      have hq7 := hT3.1 g7
      have e7' : m7 D 1 = m3 D 1 := by rw [e7 D (by omega)]
      have x3 := cX_lt O3n
      refine jK_deep (show 0 + 1 ≤ d by omega) (s_addC hT h7 ⟨by omega, by omega⟩ (fun m8 h8 e458 e8 s8 v8 => ?_))
      rw [e7'] at v8 s8 e8
      have f3 : ∀ i, i < m3 D 1 → eqI D m8 m3 i := fun i a => eqI_t (s8 i (by omega)) (eqI_q (fun j a b => e7 _ (by omega)))
      refine hq7.2.1 rfl m8 h8 ⟨fun i hi => eqI_t (f3 i (by omega)) (eqI_t (O3b i hi) (eqI_q (fun j a b => e2 _ (by omega) (by omega)))), by omega, ?_, ?_⟩
      · show 2 * (m8 D 1 - m D 1) + 1 ≤ 3 * (n3 - s.2.1) + 2 * 0
        omega
      unfold cN
      rw [if_pos rfl, e8]
      refine cX_abs (lo := s.2.1) (hi := n3) (k := s.2.1) (lo1 := s.2.1 + 1) (hi1 := n3) (l := l) ⟨by omega, by omega⟩ ⟨by omega, by omega, by omega⟩ (cX_c (fun f j _ _ c e => ?_) (fun i c e => f3 i e) O3n) ?_ ?_ v8.1
      · show jUp R3 4 s.2.1 l f j = R3 f j
        rw [up_no (by omega)]
      · show jUp R3 4 s.2.1 l 2 s.2.1 = 7
        rw [up_fi (by omega), H3 _ _ (by omega), pRw_2]
      · exact up_same
    · rw [if_neg q] at hq
      exact cQ_F hq _ (cPs_f hs)
  · have g1 := g (1, 48) (by simp)
    have g2 := g (2, 151) (by simp)
    have g40 := g (40, 72) (by simp)
    have g124 := g (124, 101) (by simp)
    dsimp only at g1 g2 g40 g124
    rw [if_neg (fun w => g1 (t1 w).1), if_neg (fun w => g1 (t2 w).1), if_neg (fun w => g1 (tt3 w).1), if_neg (fun w => g2 (t4 w).1), if_neg h45, if_neg (fun w => g40 ((cSg hs (by omega)).2 w)), if_neg (fun w => g124 ((cSg hs (by omega)).2 w))] at hq
    exact cQ_F hq _ (cPs_f hs)
theorem c_factor {B : Int → Int} {L D : Int} {m0 : jM} (hT : cTx B L D m0) {f : Nat} (ih : cIH B L D m0 f) {t x : Int} {s : pS} {m : jM} {Q : Int → jM → Prop} {d : Nat} (hs : cPs B L D m0 s m) (ht : t = 0 ∨ t = 1) (hx : 0 ≤ x ∧ x ≤ s.2.1) (hd : 3 * f + 11 ≤ d) (hA : 0 ≤ m D 1 ∧ 2 * m D 1 + 2 * t ≤ 3 * s.2.1) (hq : cPq B L D m0 (m D 1) s.2.1 t m (pFa B (pP B f 0 0) (pP B f 5 0) s) Q) : aX8_factor_4 d t x m Q := by
  have hD := hT.2.2.2.2.2
  have n24 := hs.2.2.2.2.2.2.1
  have at44 : ¬ m 45 5 = 45 → aX8_factor_44 d t m Q := by
    intro g
    have g45 : ¬ isS B s 45 := fun w => g ((cSg hs (by omega)).2 w)
    refine gX8_factor_44 d t m Q (c_atom hT ih hs g45 (by omega) ⟨hA.1, by omega⟩ ⟨hq.1, fun a m1 h1 O1 => ⟨fun w => by omega, fun _ => ⟨fun e => ?_, fun e => ?_⟩⟩, fun a m1 h1 => ⟨fun _ => hq.2.2 a m1 h1, fun w => absurd rfl w⟩⟩)
    · subst e
      exact hq.2.1 a m1 h1 O1
    · have e1 : t = 1 := by omega
      subst e1
      obtain ⟨a1, a2, a3, a4⟩ := O1
      unfold cN at a4
      rw [if_pos rfl] at a4
      have n1 := h1.2.2.2.2.2.2.1
      have x1 := cX_lt a4
      refine jK_deep (show 0 + 1 ≤ d by omega) (s_addC hT h1 ⟨by omega, by omega⟩ (fun m2 h2 e45 e2 s2 v2 => hq.2.1 a m2 h2 ⟨fun i hi => eqI_t (s2 i (by omega)) (a1 i hi), by omega, by omega, ?_⟩))
      unfold cN
      rw [if_neg (by omega), e2, show m1 D 1 + 1 - 1 = m1 D 1 by omega]
      exact Or.inl ⟨cX_c (fun _ _ _ _ _ _ => rfl) (fun i c e => s2 i (by omega)) a4, v2.1⟩
  refine gX8_factor_4 d t x m Q ⟨fun g => by omega, fun _ => ⟨fun g => ?_, at44⟩⟩
  have gs := (cSg hs (by omega)).1 g
  have g1 := gs.1
  unfold pFa at hq
  rw [if_neg (by omega), if_neg (by omega), if_neg (by omega), if_neg (by omega), if_pos gs] at hq
  have hN := cQ_N hq
  have go : ∀ m1, s.2.1 < 24 → cPs B L D m0 (pN B (pA s 6 0)) m1 → (∀ q, q ≠ 45 → q ≠ D → m1 q = m q) → m1 D 1 = m D 1 → aX8_factor_4 d (1 - t) (w32 (x + 1)) m1 Q := by
    intro m1 q h1 e1 e1'
    rw [w32_id (by omega) (by omega)]
    have hN := hN.1 q
    refine ih 5 0 (pN B (pA s 6 0)) m1 Q d (1 - t) (x + 1) (m1 D 1) (s.2.1 + 1) (by omega) (by omega) h1 (cQ_B hN (fun o2 m2 h2 O2 hq2 => ?_) (fun p hp m' hm => hp m' hm)) (by omega) ⟨by omega, by show x + 1 ≤ s.2.1 + 1; omega⟩ (by omega) ⟨by omega, by omega, by omega⟩ (Or.inl ⟨by omega, by omega, rfl, rfl⟩)
    have H3 := pP_h B (s.2.1 + 1) _ f 5 0 (pN B (pA s 6 0)) ⟨Int.le_refl _, fun _ _ _ => rfl⟩ o2
    generalize pP B f 5 0 (pN B (pA s 6 0)) = r3 at *
    obtain ⟨_, l, p3, n3, d3, R3⟩ := r3
    obtain ⟨H3n, H3⟩ := H3
    dsimp only [pU, pN, pA, qO] at h2 O2 hq2 H3n H3
    obtain ⟨a1, a2, a3, a4⟩ := O2
    dsimp only at a3 a4
    rw [e1'] at a1 a2 a3 a4
    refine hq2.2.1 rfl m2 h2 ⟨fun i hi => eqI_t (a1 i hi) (eqI_q (fun j a b => e1 _ (by omega) (by omega))), a2, ?_, ?_⟩
    · show 2 * (m2 D 1 - m D 1) + 1 ≤ 3 * (n3 - s.2.1) + 2 * t
      omega
    refine cN_neg (lo1 := s.2.1 + 1) (hi1 := n3) (l := l) ht ⟨by show s.2.1 ≤ s.2.1; omega, by show s.2.1 < n3; omega⟩ ⟨by omega, by show n3 ≤ n3; omega, by show n3 - (s.2.1 + 1) < n3 - s.2.1; omega⟩ (cN_c (fun f j _ _ c e => ?_) (fun i c e => ⟨rfl, rfl, rfl⟩) a4) ?_ ?_
    · show jUp R3 4 s.2.1 l f j = R3 f j
      rw [up_no (by omega)]
    · show jUp R3 4 s.2.1 l 2 s.2.1 = 6
      rw [up_fi (by omega), H3 _ _ (by omega), pRw_2]
    · exact up_same
  refine jK_deep (show 0 + 4 ≤ d by omega) (s_partC (op := 6) (num := 0) hT hs (by omega) (fun q m1 h1 e1 e1' => ⟨fun w => by omega, fun _ => ⟨fun e => ?_, fun e => ?_⟩⟩) (fun q m1 h1 => ⟨fun _ => hN.2 q _ h1, fun w => absurd rfl w⟩))
  · have := go m1 q h1 e1 e1'
    rw [e] at this
    exact this
  · have := go m1 q h1 e1 e1'
    rw [show t = 1 by omega] at this
    exact this
theorem s_parseC {B : Int → Int} {L D : Int} {m0 : jM} (hT : cTx B L D m0) (f : Nat) : cIH B L D m0 f := by
  induction f with
  | zero => intro g a s m Q d t x A lo h0 h5 hs hq; exact absurd rfl hq.1
  | succ f ih =>
    intro g a s m Q d t x A lo h0 h5 hs hq hd hx ht hA hp
    have hq' : cPq B L D m0 A lo t m (if g = 0 then pEx B (pP B f 0 0) (pP B f 1 0) s
      else if g = 1 then pB (pP B f 3 0 s) (pP B f 2)
      else if g = 2 then pRe B 0 (pP B f 3 0) (pP B f 2) a s
      else if g = 3 then pB (pP B f 5 0 s) (pP B f 4)
      else if g = 4 then pRe B 1 (pP B f 5 0) (pP B f 4) a s
      else pFa B (pP B f 0 0) (pP B f 5 0) s) Q := hq
    clear hq
    have hg : g = 0 ∨ g = 1 ∨ g = 2 ∨ g = 3 ∨ g = 4 ∨ g = 5 := by omega
    have ht0 : g ≠ 5 → t = 0 := by omega
    have hd' : 3 * f + 11 ≤ d := by omega
    rcases hg with rfl | rfl | rfl | rfl | rfl | rfl
    · obtain rfl := ht0 (by omega)
      obtain ⟨_, _, rfl, rfl⟩ | w := hp
      · exact c_expr hT ih hs hq' hd' ⟨hA.1, by omega⟩
      · exfalso; omega
    · obtain rfl := ht0 (by omega)
      obtain ⟨_, _, rfl, rfl⟩ | w := hp
      · exact c_sum ih hs hq' hd' ⟨hA.1, by omega⟩
      · exfalso; omega
    · obtain rfl := ht0 (by omega)
      rcases hp with w | w
      · exfalso; omega
      · exact c_rest2 hT ih hs hq' hd' hx ⟨hA.1, hA.2.1, by omega⟩ w.2
    · obtain rfl := ht0 (by omega)
      obtain ⟨_, _, rfl, rfl⟩ | w := hp
      · exact c_product ih hs hq' hd' ⟨hA.1, by omega⟩
      · exfalso; omega
    · obtain rfl := ht0 (by omega)
      rcases hp with w | w
      · exfalso; omega
      · exact c_rest4 hT ih hs hq' hd' hx ⟨hA.1, hA.2.1, by omega⟩ w.2
    · obtain ⟨_, _, rfl, rfl⟩ | w := hp
      · exact c_factor hT ih hs (by omega) hx hd' ⟨hA.1, by omega⟩ hq'
      · exfalso; omega

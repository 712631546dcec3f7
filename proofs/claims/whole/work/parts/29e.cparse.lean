/-! the class's parser: its small steps -/
def cFm (D : Int) (m0 m : jM) : Prop := (∀ q, q ≠ 45 → ¬ (D ≤ q ∧ q ≤ D + 3) → m q = m0 q) ∧ ∀ f, f < 3 ∨ 8 < f → m 45 f = m0 45 f
def cPs (B : Int → Int) (L D : Int) (m0 : jM) (s : pS) (m : jM) : Prop := cFm D m0 m ∧ cTk B s.1 m ∧ m 45 3 ≤ L ∧ (0 ≤ s.1 ∧ s.1 ≤ L) ∧ m D 0 = s.2.1 ∧ m 45 4 = s.2.2.1 ∧ (0 ≤ s.2.1 ∧ s.2.1 ≤ 24) ∧ (0 ≤ s.2.2.1 ∧ s.2.2.1 ≤ 5)
def cPf (D : Int) (m0 : jM) (p : Int) (m : jM) : Prop := cFm D m0 m ∧ m 45 6 = p
def cTx (B : Int → Int) (L D : Int) (m0 : jM) : Prop := bOf (m0 46) L = B ∧ m0 45 1 = L ∧ m0 45 2 = D ∧ (0 ≤ L ∧ L ≤ 60) ∧ (∀ i : Int, 0 ≤ i → i < L → 0 ≤ m0 46 i ∧ m0 46 i ≤ 255) ∧ ((1 ≤ D ∧ D ≤ 19) ∨ D = 47)
theorem cTk_c {B : Int → Int} {p : Int} {m m' : jM} (h : ∀ f, 3 ≤ f → f ≤ 8 → f ≠ 4 → m' 45 f = m 45 f) (hr : cTk B p m) : cTk B p m' := by
  unfold cTk at hr ⊢
  rw [h 3 (by omega) (by omega) (by omega), h 5 (by omega) (by omega) (by omega), h 6 (by omega) (by omega) (by omega), h 7 (by omega) (by omega) (by omega), h 8 (by omega) (by omega) (by omega)]
  exact hr
theorem cPs_f {B : Int → Int} {L D : Int} {m0 m : jM} {s : pS} (h : cPs B L D m0 s m) : cPf D m0 s.1 m := ⟨h.1, h.2.1.1⟩
theorem cPs_D {B : Int → Int} {L D : Int} {m0 m : jM} {s : pS} (hT : cTx B L D m0) (h : cPs B L D m0 s m) : m 45 2 = D := by rw [h.1.2 2 (by omega)]; exact hT.2.2.1
/-- a store into the steps keeps the parser's state -/
theorem cPs_up {B : Int → Int} {L D : Int} {m0 m : jM} {s : pS} (hT : cTx B L D m0) (h : cPs B L D m0 s m) {q k v : Int} (hq : (D < q ∧ q ≤ D + 3) ∨ (q = D ∧ k ≠ 0)) : cPs B L D m0 s (jUp m q k v) := by
  obtain ⟨T1, T2, T3, T4, T5, T6⟩ := hT
  obtain ⟨h1, h2, h3, h4, h5, h6, h7, h8⟩ := h
  have e : jUp m q k v 45 = m 45 := up_ne (by omega)
  refine ⟨⟨fun a b c => by rw [up_ne (by omega)]; exact h1.1 a b c, fun f hf => by rw [e]; exact h1.2 f hf⟩, cTk_c (fun f _ _ _ => by rw [e]) h2, by rw [e]; exact h3, h4, ?_, by rw [e]; exact h6, h7, h8⟩
  rcases hq with hq | ⟨rfl, hq⟩
  · rw [up_ne (by omega)]; exact h5
  · rw [up_oth (by omega)]; exact h5
theorem s_stepP {d : Nat} {B : Int → Int} {L D : Int} {m0 m : jM} {s : pS} {Q : Int → jM → Prop} (hT : cTx B L D m0) (h : cPs B L D m0 s m) (h6 : (tk B s.1).1 ≠ 6) (hQ : ∀ m', cPs B L D m0 (pN B s) m' → (∀ q, q ≠ 45 → m' q = m q) → Q 0 m') : jK (d + 3) zX8_step [jO 8 45] m Q := by
  obtain ⟨T1, T2, T3, T4, T5, T6⟩ := hT
  obtain ⟨h1, h2, h3, h4, h5, h6', h7, h8⟩ := h
  have e46 : m 46 = m0 46 := h1.1 46 (by omega) (by omega)
  refine s_stepC (n := L) (a := m 45 3) T4 ⟨h2.2.2.1, h3⟩ (by rw [h1.2 1 (by omega)]; exact T2) rfl (by rw [e46]; exact T5) (fun m' hf hc h3' hb => hQ m' ?_ hf.1)
  rw [e46, T1, h2.2.1 h6] at hc hb
  exact ⟨⟨fun a b c => by rw [hf.1 a b]; exact h1.1 a b c, fun f hf2 => by rw [hf.2 f (by omega) (by omega) (by omega) (by omega) (by omega)]; exact h1.2 f hf2⟩, hc, h3', hb, by rw [hf.1 D (by omega)]; exact h5, by rw [hf.2 4 (by omega) (by omega) (by omega) (by omega) (by omega)]; exact h6', h7, h8⟩
theorem s_partC {d : Nat} {B : Int → Int} {L D : Int} {m0 m : jM} {s : pS} {op num : Int} {Q : Int → jM → Prop} (hT : cTx B L D m0) (h : cPs B L D m0 s m) (h6 : (tk B s.1).1 ≠ 6) (h2 : s.2.1 < 24 → ∀ m', cPs B L D m0 (pN B (pA s op num)) m' → (∀ q, q ≠ 45 → q ≠ D → m' q = m q) → m' D 1 = m D 1 → Q 1 m') (h1 : ¬ s.2.1 < 24 → ∀ m', cPf D m0 s.1 m' → Q 0 m') : jK (d + 4) zX8_part [jO 8 45] m Q := by
  have eD := cPs_D hT h
  have hT' := hT
  obtain ⟨T1, T2, T3, T4, T5, T6⟩ := hT
  have h' := h
  obtain ⟨g1, g2, g3, h4, h5, h6', h7, h8⟩ := h'
  refine gX8_part (d + 3) m Q ⟨fun g => ?_, fun g => ?_⟩ <;> rw [eD, h5] at g
  · rw [eD, h5, show w32 (s.2.1 + 1) = s.2.1 + 1 from w32_id (by omega) (by omega)]
    have e : jUp m D 0 (s.2.1 + 1) 45 = m 45 := up_ne (by omega)
    have b0 : cPs B L D m0 (pA s op num) (jUp m D 0 (s.2.1 + 1)) := ⟨⟨fun a b c => by rw [up_ne (by omega)]; exact g1.1 a b c, fun f hf => by rw [e]; exact g1.2 f hf⟩, cTk_c (fun f _ _ _ => by rw [e]) g2, by rw [e]; exact g3, h4, up_same, by rw [e]; exact h6', ⟨by show 0 ≤ s.2.1 + 1; omega, by show s.2.1 + 1 ≤ 24; omega⟩, h8⟩
    exact s_stepP hT' b0 h6 (fun m' hm hf => h2 g m' hm (fun q a b => by rw [hf q a, up_ne b]) (by rw [hf D (by omega), up_oth (by omega)]))
  · exact h1 g _ (cPs_f h)
/-- what enter() does behind: '(' opens, '|' is a part too -/
theorem s_enterC {d : Nat} {B : Int → Int} {L D : Int} {m0 m : jM} {s : pS} {Q : Int → jM → Prop} (hT : cTx B L D m0) (h : cPs B L D m0 s m) (h40 : isS B s 40) (h2 : s.2.2.1 < 5 → ∀ m', cPs B L D m0 (pN B (qO s 1)) m' → (∀ q, q ≠ 45 → m' q = m q) → Q 1 m') (h1 : ¬ s.2.2.1 < 5 → ∀ m', cPf D m0 s.1 m' → Q 0 m') : jK (d + 4) zX8_enter [jO 8 45] m Q := by
  have h' := h
  obtain ⟨g1, g2, g3, h4, h5, h6', h7, h8⟩ := h'
  have e5 : m 45 5 = 40 := by rw [(g2.2.2.2.2.2.2.2.2.1 h40.1)]; exact h40.2
  refine gX8_enter (d + 3) m Q ⟨fun g => ⟨fun w => by omega, fun _ => ?_⟩, fun g => ?_⟩
  · rw [h6', show w32 (s.2.2.1 + 1) = s.2.2.1 + 1 from w32_id (by omega) (by omega)]
    have b0 : cPs B L D m0 (qO s 1) (jUp m 45 4 (s.2.2.1 + 1)) := by
      have hD := hT.2.2.2.2.2
      refine ⟨⟨fun a b c => by rw [up_ne b]; exact g1.1 a b c, fun f hf => by rw [up_oth (by omega)]; exact g1.2 f hf⟩, cTk_c (fun f _ _ _ => up_oth (by omega)) g2, by rw [up_oth (by omega)]; exact g3, h4, by rw [up_ne (by omega)]; exact h5, up_same, h7, ⟨by show 0 ≤ s.2.2.1 + 1; omega, by show s.2.2.1 + 1 ≤ 5; omega⟩⟩
    exact s_stepP hT b0 (by show (tk B s.1).1 ≠ 6; have := h40.1; omega) (fun m' hm hf => h2 (by omega) m' hm (fun q a => by rw [hf q a, up_ne a]))
  · exact h1 (by omega) _ (cPs_f h)
theorem s_enterB {d : Nat} {B : Int → Int} {L D : Int} {m0 m : jM} {s : pS} {op num : Int} {Q : Int → jM → Prop} (hT : cTx B L D m0) (h : cPs B L D m0 s m) (h40 : isS B s 124) (hn : s.2.1 < 24) (h2 : s.2.2.1 < 5 → ∀ m', cPs B L D m0 (pN B (qO (pA s op num) 1)) m' → (∀ q, q ≠ 45 → q ≠ D → m' q = m q) → m' D 1 = m D 1 → Q 1 m') (h1 : ¬ s.2.2.1 < 5 → ∀ m', cPf D m0 s.1 m' → Q 0 m') : jK (d + 4) zX8_enter [jO 8 45] m Q := by
  have eD := cPs_D hT h
  have h' := h
  obtain ⟨g1, g2, g3, h4, h5, h6', h7, h8⟩ := h'
  have hD := hT.2.2.2.2.2
  have e5 : m 45 5 = 124 := by rw [(g2.2.2.2.2.2.2.2.2.1 h40.1)]; exact h40.2
  refine gX8_enter (d + 3) m Q ⟨fun g => ⟨fun _ => ?_, fun w => absurd e5 w⟩, fun g => ?_⟩
  · rw [eD, h5, show w32 (s.2.1 + 1) = s.2.1 + 1 from w32_id (by omega) (by omega), show jUp m D 0 (s.2.1 + 1) 45 4 = s.2.2.1 by rw [up_ne (by omega)]; exact h6', show w32 (s.2.2.1 + 1) = s.2.2.1 + 1 from w32_id (by omega) (by omega)]
    have e : jUp m D 0 (s.2.1 + 1) 45 = m 45 := up_ne (by omega)
    have b0 : cPs B L D m0 (qO (pA s op num) 1) (jUp (jUp m D 0 (s.2.1 + 1)) 45 4 (s.2.2.1 + 1)) := by
      refine ⟨⟨fun a b c => by rw [up_ne b, up_ne (by omega)]; exact g1.1 a b c, fun f hf => by rw [up_oth (by omega), e]; exact g1.2 f hf⟩, cTk_c (fun f _ _ _ => by rw [up_oth (by omega), e]) g2, by rw [up_oth (by omega), e]; exact g3, h4, by rw [up_ne (by omega), up_same]; rfl, up_same, ⟨by show 0 ≤ s.2.1 + 1; omega, by show s.2.1 + 1 ≤ 24; omega⟩, ⟨by show 0 ≤ s.2.2.1 + 1; omega, by show s.2.2.1 + 1 ≤ 5; omega⟩⟩
    exact s_stepP hT b0 (by show (tk B s.1).1 ≠ 6; have := h40.1; omega) (fun m' hm hf => h2 (by omega) m' hm (fun q a b => by rw [hf q a, up_ne a, up_ne b]) (by rw [hf D (by omega), up_ne (by omega), up_oth (by omega)]))
  · exact h1 (by omega) _ (cPs_f h)
/-- is the token this sign? by the class's field -/
theorem cSg {B : Int → Int} {L D : Int} {m0 m : jM} {s : pS} (h : cPs B L D m0 s m) {x : Int} (hx : 4 ≤ x) : m 45 5 = x ↔ isS B s x := by
  obtain ⟨g1, ⟨t6, t3, t30, t0, t1, t2, tt3, t4, t5, tt6⟩, g3, h4, h5, h6', h7, h8⟩ := h
  constructor
  · intro e
    rcases (tk_r B s.1).1 with q | q | q | q | q | q | q
    · have := t0 q; omega
    · have := (t1 q).1; omega
    · have := (t2 q).1; omega
    · have := (tt3 q).1; omega
    · have := (t4 q).1; omega
    · exact ⟨q, by rw [← t5 q]; exact e⟩
    · have := tt6 q; omega
  · intro e
    rw [t5 e.1]; exact e.2
theorem s_leaveC {d : Nat} {B : Int → Int} {L D : Int} {m0 m : jM} {s : pS} {x : Int} {Q : Int → jM → Prop} (hT : cTx B L D m0) (h : cPs B L D m0 s m) (hx : 4 ≤ x) (hd : 1 ≤ s.2.2.1) (h2 : isS B s x → ∀ m', cPs B L D m0 (qO (pN B s) (-1)) m' → (∀ q, q ≠ 45 → m' q = m q) → Q 1 m') (h1 : ¬ isS B s x → ∀ m', cPf D m0 s.1 m' → Q 0 m') : jK (d + 4) zX8_leave [jO 8 45, jI x] m Q := by
  have h' := h
  obtain ⟨g1, g2, g3, h4, h5, h6', h7, h8⟩ := h'
  refine gX8_leave (d + 3) x m Q ⟨fun g => ?_, fun g => h1 (fun w => g ((cSg h hx).2 w)) _ (cPs_f h)⟩
  have gs := (cSg h hx).1 g
  rw [h6', show w32 (s.2.2.1 - 1) = s.2.2.1 - 1 from w32_id (by omega) (by omega)]
  have b0 : cPs B L D m0 (qO s (-1)) (jUp m 45 4 (s.2.2.1 - 1)) := by
    have hD := hT.2.2.2.2.2
    refine ⟨⟨fun a b c => by rw [up_ne b]; exact g1.1 a b c, fun f hf => by rw [up_oth (by omega)]; exact g1.2 f hf⟩, cTk_c (fun f _ _ _ => up_oth (by omega)) g2, by rw [up_oth (by omega)]; exact g3, h4, by rw [up_ne (by omega)]; exact h5, up_same, h7, ⟨by show 0 ≤ s.2.2.1 + (-1); omega, by show s.2.2.1 + (-1) ≤ 5; omega⟩⟩
  exact s_stepP hT b0 (by show (tk B s.1).1 ≠ 6; have := gs.1; omega) (fun m' hm hf => h2 gs m' hm (fun q a => by rw [hf q a, up_ne a]))
theorem s_addC {d : Nat} {B : Int → Int} {L D : Int} {m0 m : jM} {s : pS} {x1 x2 x3 : Int} {Q : Int → jM → Prop} (hT : cTx B L D m0) (h : cPs B L D m0 s m) (hc : 0 ≤ m D 1 ∧ m D 1 < 40)
    (hQ : ∀ m', cPs B L D m0 s m' → m' 45 = m 45 → m' D 1 = m D 1 + 1 → (∀ i, i ≠ m D 1 → m' (D + 1) i = m (D + 1) i ∧ m' (D + 2) i = m (D + 2) i ∧ m' (D + 3) i = m (D + 3) i) → m' (D + 1) (m D 1) = x1 ∧ m' (D + 2) (m D 1) = x2 ∧ m' (D + 3) (m D 1) = x3 → Q 0 m') : jK (d + 1) zX6_add [jO 6 (m 45 2), jI x1, jI x2, jI x3] m Q := by
  rw [cPs_D hT h]
  have hD := hT.2.2.2.2.2
  have eD : ∀ (q k v : Int) (mm : jM), q ≠ D → jUp mm q k v D = mm D := fun q k v mm hq => up_ne (by omega)
  refine gX6_add d D x1 x2 x3 m Q ⟨fun _ => ?_, fun g => absurd hc.2 g⟩
  rw [eD (D + 3) _ _ _ (by omega), eD (D + 2) _ _ _ (by omega), eD (D + 1) _ _ _ (by omega)]
  generalize hS : m D 1 = S at *
  rw [show w32 (S + 1) = S + 1 from w32_id (by omega) (by omega)]
  refine ⟨hc, hc, hc, hQ _ (cPs_up hT (cPs_up hT (cPs_up hT (cPs_up hT h (by omega)) (by omega)) (by omega)) (by omega)) ?_ up_same (fun i hi => ⟨?_, ?_, ?_⟩) ⟨?_, ?_, ?_⟩⟩
  · rw [up_ne (by omega), up_ne (by omega), up_ne (by omega), up_ne (by omega)]
  · rw [up_ne (by omega), up_ne (by omega), up_ne (by omega), up_oth (by omega)]
  · rw [up_ne (by omega), up_ne (by omega), up_oth (by omega), up_ne (by omega)]
  · rw [up_ne (by omega), up_oth (by omega), up_ne (by omega), up_ne (by omega)]
  · rw [up_ne (by omega), up_ne (by omega), up_ne (by omega), up_same]
  · rw [up_ne (by omega), up_ne (by omega), up_same]
  · rw [up_ne (by omega), up_same]
theorem s_landC {d : Nat} {B : Int → Int} {L D : Int} {m0 m : jM} {s : pS} {x : Int} {Q : Int → jM → Prop} (hT : cTx B L D m0) (h : cPs B L D m0 s m) (hx : 0 ≤ x ∧ x < 40)
    (hQ : ∀ m', cPs B L D m0 s m' → m' 45 = m 45 → m' D = m D → m' (D + 1) = m (D + 1) → m' (D + 3) = m (D + 3) → (∀ i, i ≠ x → m' (D + 2) i = m (D + 2) i) → m' (D + 2) x = m D 1 → Q 0 m') : jK (d + 1) zX6_landHere [jO 6 (m 45 2), jI x] m Q := by
  rw [cPs_D hT h]
  have hD := hT.2.2.2.2.2
  refine gX6_landHere d D x m Q ⟨fun g => by omega, fun _ => ⟨fun _ => ⟨hx, hQ _ (cPs_up hT h (by omega)) ?_ ?_ ?_ ?_ (fun i hi => ?_) up_same⟩, fun g => by omega⟩⟩
  · exact up_ne (by omega)
  · exact up_ne (by omega)
  · exact up_ne (by omega)
  · exact up_ne (by omega)
  · exact up_oth (by omega)

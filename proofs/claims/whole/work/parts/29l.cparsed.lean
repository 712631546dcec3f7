/-! a text parsed by the class -/
def pAll (B : Int → Int) (R0 : jM) : pR := pP B 180 0 0 (skp B 0, 0, 0, R0)
def pGood (B : Int → Int) (R0 : jM) : Prop := (pAll B R0).1 = 2 ∧ (tk B (pAll B R0).2.2.1).1 = 0
theorem pAll_w (B : Int → Int) (R0 : jM) : (pAll B R0).1 = 1 ∨ ((pAll B R0).1 = 2 ∧ (pAll B R0).2.2.2.2.1 = 0 ∧ 1 ≤ (pAll B R0).2.2.2.1 ∧ (pAll B R0).2.2.2.1 ≤ 24) := by
  have w := pP_w B 180 0 0 (skp B 0, 0, 0, R0) (by omega) (by omega) ⟨by dsimp only; omega, by dsimp only; omega, by dsimp only; omega, by dsimp only; omega⟩ (by rw [show wgt 0 = 3 from rfl]; dsimp only; omega)
  rcases w with w | ⟨w1, w2, w3, w4⟩
  · exact Or.inl w
  · exact Or.inr ⟨w1, w2, by rw [show grw 0 = 1 from rfl] at w3; dsimp only at w3; exact w3, w4⟩
theorem tk_5 {B : Int → Int} {p : Int} (h : (tk B p).1 = 5) : 40 ≤ (tk B p).2.1 := by
  revert h
  unfold tk isSg
  (repeat' split) <;> intro h <;> dsimp only at h ⊢ <;> omega
theorem s_parse {B : Int → Int} {L D : Int} {m : jM} (hT : cTx B L D m) (R0 : jM) {Q : Int → jM → Prop} {d : Nat} (hd : 560 ≤ d)
    (hG : pGood B R0 → ∀ m', cFm D m m' → m' D 0 = (pAll B R0).2.2.2.1 → (0 ≤ m' D 1 ∧ m' D 1 ≤ 36) → cX (pAll B R0).2.2.2.2.2 (m' (D + 1)) (m' (D + 2)) (m' (D + 3)) 0 (pAll B R0).2.2.2.1 0 (m' D 1) (pAll B R0).2.1 → Q (-1) m')
    (hF : ¬ pGood B R0 → ∀ m', cFm D m m' → Q (pAll B R0).2.2.1 m') : jK d zX8_parse [jO 8 45] m Q := by
  obtain ⟨d, rfl⟩ : ∃ e, d = e + 1 := ⟨d - 1, by omega⟩
  have hT' := hT
  obtain ⟨T1, T2, T3, T4, T5, T6⟩ := hT'
  refine gX8_parse d m Q (jK_deep (show 0 + 1 ≤ d by omega) (gX6_clear 0 _ m _ ?_))
  rw [T3]
  generalize hm1 : jUp (jUp (jUp (jUp m D 0 0) D 1 0) 45 3 0) 45 4 0 = mm
  have eq : ∀ q, q ≠ 45 → q ≠ D → mm q = m q := fun q a b => by rw [← hm1, up_ne a, up_ne a, up_ne b, up_ne b]
  have e45 : ∀ f, f ≠ 3 → f ≠ 4 → mm 45 f = m 45 f := fun f a b => by rw [← hm1, up_oth b, up_oth a, up_ne (by omega), up_ne (by omega)]
  have eD0 : mm D 0 = 0 := by rw [← hm1, up_ne (by omega), up_ne (by omega), up_oth (by omega), up_same]
  have eD1 : mm D 1 = 0 := by rw [← hm1, up_ne (by omega), up_ne (by omega), up_same]
  have e3 : mm 45 3 = 0 := by rw [← hm1, up_oth (by omega), up_same]
  have e4 : mm 45 4 = 0 := by rw [← hm1, up_same]
  have e46 : mm 46 = m 46 := eq 46 (by omega) (by omega)
  refine jK_deep (show 0 + 3 ≤ d by omega) (s_stepC (n := L) (a := 0) T4 ⟨by omega, by omega⟩ (by rw [e45 1 (by omega) (by omega)]; exact T2) e3 (by rw [e46]; exact T5) (fun m2 hf hc h3' hb => ?_))
  rw [e46, T1] at hc hb
  have hs : cPs B L D m (skp B 0, 0, 0, R0) m2 := by
    refine ⟨⟨fun a b c => ?_, fun f hf2 => ?_⟩, hc, h3', hb, ?_, ?_, ⟨by dsimp only; omega, by dsimp only; omega⟩, ⟨by dsimp only; omega, by dsimp only; omega⟩⟩
    · rw [hf.1 a b]; exact eq a b (by omega)
    · rw [hf.2 f (by omega) (by omega) (by omega) (by omega) (by omega)]; exact e45 f (by omega) (by omega)
    · rw [hf.1 D (by omega)]; exact eD0
    · rw [hf.2 4 (by omega) (by omega) (by omega) (by omega) (by omega)]; exact e4
  have eS : m2 D 1 = 0 := by rw [hf.1 D (by omega)]; exact eD1
  have w := pAll_w B R0
  refine cI_0 (s_parseC hT 180) hs ⟨?_, fun g m3 h3 O3 => ⟨fun w => by omega, fun _ => ⟨fun g5 => ?_, fun g5 => ?_⟩⟩, fun g m3 h3 => ⟨fun _ => ?_, fun w => absurd rfl w⟩⟩ (by omega) ⟨by omega, by rw [eS]; dsimp only; omega⟩
  · show (pAll B R0).1 ≠ 0
    omega
  · have tok := h3.2.1
    obtain ⟨t6, t3, t30, t0, t1, t2, tt3, t4, t5, tt6⟩ := tok
    have k0 : (tk B (pAll B R0).2.2.1).1 = 0 := by
      rcases (tk_r B (pAll B R0).2.2.1).1 with e | e | e | e | e | e | e
      · exact e
      · have := (t1 e).1; omega
      · have := (t2 e).1; omega
      · have := (tt3 e).1; omega
      · have := (t4 e).1; omega
      · have a := t5 e
        have b := tk_5 e
        exfalso
        change m3 45 5 = (tk B (pAll B R0).2.2.1).2.1 at a
        omega
      · have := tt6 e; omega
    obtain ⟨a1, a2, a3, a4⟩ := O3
    rw [eS] at a2 a3 a4
    unfold cN at a4
    rw [if_pos rfl] at a4
    have n24 := h3.2.2.2.2.2.2.1
    refine hG ⟨g, k0⟩ m3 h3.1 h3.2.2.2.2.1 ⟨a2, ?_⟩ a4
    dsimp only at a3
    omega
  · have e6 : m3 45 6 = (pAll B R0).2.2.1 := h3.2.1.1
    rw [e6]
    exact hF (fun w => g5 (h3.2.1.2.2.2.1 w.2)) m3 h3.1
  · rw [h3.2]
    exact hF (fun w => by have := w.1; change (pAll B R0).1 = 1 at g; omega) m3 h3.1

/-! a text parsed by the reference -/
def rFx (m m' : jM) : Prop := (∀ q, q ≠ 103 → ¬ (119 ≤ q ∧ q ≤ 125) → m' q = m q) ∧ (∀ f, f < 16 ∨ 24 < f → m' 103 f = m 103 f) ∧ m' 103 16 = 0
theorem s_textR {B : Int → Int} {L x1 : Int} {m : jM} (hT : rTx B L m) (hx : 0 ≤ x1 ∧ x1 ≤ 3) {Q : Int → jM → Prop} {d : Nat} (hd : 370 ≤ d)
    (hG : pGood B (fun f k => m (117 + f) k) → ∀ m', rFx m m' → m' 103 24 = (pAll B (fun f k => m (117 + f) k)).2.2.2.1 → (∀ f k, 2 ≤ f → f ≤ 8 → m' (117 + f) k = (pAll B (fun f k => m (117 + f) k)).2.2.2.2.2 f k) → aX11_text_77 d x1 (pAll B (fun f k => m (117 + f) k)).2.1 0 m' Q)
    (hF : ¬ pGood B (fun f k => m (117 + f) k) → ∀ m', rFx m m' → Q (w32 ((-100) - (pAll B (fun f k => m (117 + f) k)).2.2.1)) m') : jK (d + 1) zX11_text [jO 11 103, jI x1] m Q := by
  have hT' := hT
  obtain ⟨T1, T2, T3, T4⟩ := hT'
  have hBo : ∀ i, L ≤ i → B i = -1 := fun i hi => by rw [← T1]; exact bOf_out hi
  have sk := skp_le hBo (p := 0) (by omega)
  generalize hR0 : (fun f k => m (117 + f) k) = R0 at *
  have hR : ∀ f k, R0 f k = m (117 + f) k := fun f k => by rw [← hR0]
  have w := pAll_w B R0
  refine gX11_text d x1 m Q (jK_deep (show 0 + 1 ≤ d by omega) (s_in ⟨fun g => ?_, fun g => ?_⟩))
  · rw [bI_0] at g
    exact absurd hx g
  generalize hm1 : jUp (jUp (jUp (jUp m 103 17 0) 103 21 0) 103 22 0) 103 24 0 = mm
  have eq : ∀ q, q ≠ 103 → mm q = m q := fun q a => by rw [← hm1, up_ne a, up_ne a, up_ne a, up_ne a]
  have ef : ∀ f, f < 17 ∨ 24 < f → mm 103 f = m 103 f := fun f a => by rw [← hm1, up_oth (by omega), up_oth (by omega), up_oth (by omega), up_oth (by omega)]
  have e17 : mm 103 17 = 0 := by rw [← hm1, up_oth (by omega), up_oth (by omega), up_oth (by omega), up_same]
  have e21 : mm 103 21 = 0 := by rw [← hm1, up_oth (by omega), up_oth (by omega), up_same]
  have e22 : mm 103 22 = 0 := by rw [← hm1, up_oth (by omega), up_same]
  have e24 : mm 103 24 = 0 := by rw [← hm1, up_same]
  have e119 : mm 118 = m 118 := eq 118 (by omega)
  refine jK_deep (show 0 + 4 ≤ d by omega) (s_nextR (n := L) (a := 0) T3 (by omega) (by rw [ef 16 (by omega)]; exact T2) e17 (by rw [e119]; exact T4) (fun m2 hf hr => ?_))
  rw [e119, T1] at hr
  have hs : rPs B L m (skp B 0, 0, 0, R0) m2 := by
    refine ⟨⟨fun a b c => by rw [hf.1 a b]; exact eq a b, fun f hf2 => ?_⟩, hr, sk, ?_, ?_, ?_, ⟨by dsimp only; omega, by dsimp only; omega⟩, ⟨by dsimp only; omega, by dsimp only; omega⟩, fun f k a b => ?_⟩
    · rw [hf.2 f (by omega) (by omega) (by omega) (by omega)]; exact ef f hf2
    · rw [hf.2 22 (by omega) (by omega) (by omega) (by omega)]; exact e22
    · rw [hf.2 24 (by omega) (by omega) (by omega) (by omega)]; exact e24
    · rw [hf.2 21 (by omega) (by omega) (by omega) (by omega)]; exact e21
    · rw [hf.1 _ (by omega), eq _ (by omega)]; exact (hR f k).symm
  have frx : ∀ m3, rFm m m3 → rFx m (jUp m3 103 16 0) := fun m3 h => ⟨fun q a b => by rw [up_ne a]; exact h.1 q a b, fun f hf => by rw [up_oth (by omega)]; exact h.2 f (by omega), up_same⟩
  have bad : ∀ v m4, ¬ pGood B R0 → rPf m (pAll B R0).2.2.1 m4 → (jUp m4 103 16 0 103 22 = 0 → aX11_text_77 d x1 v 0 (jUp m4 103 16 0) Q) ∧ (¬ jUp m4 103 16 0 103 22 = 0 → Q (w32 ((-100) - (jUp m4 103 16 0) 103 23)) (jUp m4 103 16 0)) := by
    intro v m4 ng h4
    refine ⟨fun g => ?_, fun g => ?_⟩
    · rw [up_oth (by omega), h4.2.1] at g
      omega
    · rw [up_oth (by omega), h4.2.2]
      exact hF ng _ (frx _ h4.1)
  refine s_parseR hT 180 0 0 _ m2 _ d (by omega) (by omega) hs ⟨?_, fun g m3 h3 => ?_, fun g m3 v h3 => ?_⟩ (by omega)
  · show (pAll B R0).1 ≠ 0
    omega
  · have tok := h3.2.1
    obtain ⟨t19, t17, t0, t1, t2, tt3, t4, t5, tt6⟩ := tok
    refine ⟨fun g0 => ?_, fun g0 => ?_⟩
    · have k0 : (tk B (pAll B R0).2.2.1).1 = 0 := by
        rcases (tk_r B (pAll B R0).2.2.1).1 with e | e | e | e | e | e | e
        · exact e
        · have := (t1 e).1; omega
        · have := (t2 e).1; omega
        · have := (tt3 e).1; omega
        · have := (t4 e).1; omega
        · have := (t5 e).1; omega
        · have := tt6 e; omega
      refine ⟨fun _ => hG ⟨g, k0⟩ _ (frx _ h3.1) ?_ (fun f k a b => ?_), fun w => ?_⟩
      · rw [up_oth (by omega)]; exact h3.2.2.2.2.1
      · rw [up_ne (by omega)]; exact h3.2.2.2.2.2.2.2.2 f k a b
      · rw [up_oth (by omega)] at w
        exact absurd (rPs_0 h3) w
    · exact jK_deep (show 0 + 1 ≤ d by omega) (s_failP h3 (fun m4 h4 => bad _ m4 (fun w => g0 (t0 w.2)) h4))
  · have ng : ¬ pGood B R0 := fun w => by have := w.1; change (pAll B R0).1 = 1 at g; omega
    refine ⟨fun _ => bad v m3 ng h3, fun _ => jK_deep (show 0 + 1 ≤ d by omega) (s_failF h3.2.1 (bad v m3 ng h3))⟩

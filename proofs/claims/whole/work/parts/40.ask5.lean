/-! fair -/
def oH (o : Int → Int → Bool) (b : Int → Int → Int) (x : Int) : Int → Int → Bool := fun j c => o j c && decide (b j c ≤ x)
theorem oH_o {o : Int → Int → Bool} {b : Int → Int → Int} {x j c : Int} (h : oH o b x j c = true) : o j c = true := by
  unfold oH at h
  rw [Bool.and_eq_true] at h
  exact h.1
theorem dpf_ex0 {o : Int → Int → Bool} {b : Int → Int → Int} {T : Int → Int × Int} {c s : Int} (n : Nat) (hlt : ∀ j : Nat, j < n → bt s j = false → o j c = true → (T (iOr s (iShl 1 j))).1 ≠ dpF → b j c + (T (iOr s (iShl 1 j))).1 < dpF) (hex : ∃ j : Nat, j < n ∧ bt s j = false ∧ o j c = true ∧ (T (iOr s (iShl 1 j))).1 ≠ dpF) : (dpf 0 o b T c s n).1 ≠ dpF := by
  induction n with
  | zero => obtain ⟨j, h, _⟩ := hex; omega
  | succ n ih =>
    have ih := ih (fun j hj => hlt j (by omega))
    rw [dpf_s]
    have e0 : ∀ a b : Int, dpO 0 a b = a + b := fun a b => rfl
    simp only [e0]
    by_cases hc : bt s n = false ∧ o n c = true ∧ (T (iOr s (iShl 1 n))).1 ≠ dpF
    · rw [if_pos hc]
      have hl := hlt n (by omega) hc.1 hc.2.1 hc.2.2
      split
      · dsimp only; omega
      · rename_i h1
        split
        · rename_i h2
          dsimp only; omega
        · omega
    · rw [if_neg hc]
      refine ih ?_
      obtain ⟨j, j1, j2⟩ := hex
      by_cases hj : j = n
      · rw [hj] at j2; exact absurd j2 hc
      · exact ⟨j, by omega, j2⟩
theorem dpf_ex1 {o : Int → Int → Bool} {b : Int → Int → Int} {T : Int → Int × Int} {c s x : Int} (hx : x < dpF) (n : Nat) (h : (dpf 1 o b T c s n).1 ≤ x) : ∃ j : Nat, j < n ∧ bt s j = false ∧ o j c = true ∧ (T (iOr s (iShl 1 j))).1 ≠ dpF ∧ b j c ≤ x ∧ (T (iOr s (iShl 1 j))).1 ≤ x := by
  induction n with
  | zero => exact absurd (show dpF ≤ x from h) (by omega)
  | succ n ih =>
    rw [dpf_s] at h
    have e1 : ∀ a b : Int, dpO 1 a b = max a b := fun a b => rfl
    simp only [e1] at h
    have up : (dpf 1 o b T c s n).1 ≤ x → ∃ j : Nat, j < n + 1 ∧ bt s j = false ∧ o j c = true ∧ (T (iOr s (iShl 1 j))).1 ≠ dpF ∧ b j c ≤ x ∧ (T (iOr s (iShl 1 j))).1 ≤ x := fun g => by
      obtain ⟨j, j1, j2⟩ := ih g
      exact ⟨j, by omega, j2⟩
    by_cases hc : bt s n = false ∧ o n c = true ∧ (T (iOr s (iShl 1 n))).1 ≠ dpF
    · rw [if_pos hc] at h
      split at h
      · dsimp only at h
        exact ⟨n, by omega, hc.1, hc.2.1, hc.2.2, by omega, by omega⟩
      · split at h
        · exact up h
        · exact up h
    · rw [if_neg hc] at h
      exact up h
theorem dp_hv {o : Int → Int → Bool} {b : Int → Int → Int} {C : Int → Bool} (hB : dpB o b) {x : Int} (hx : x < dpF) (k : Nat) (hk : k ≤ 8) : ∀ s, mk8 s → (dpt 1 o b C k s).1 ≤ x → (dpt 0 (oH o b x) b C k s).1 ≠ dpF := by
  induction k with
  | zero => intro s _ _; show (0 : Int) ≠ dpF; unfold dpF; omega
  | succ k ih =>
    intro s hs h
    have ih := ih (by omega)
    rw [dpt_s] at h ⊢
    by_cases hC : C (7 - k) = true
    · rw [if_pos hC] at h ⊢
      have hB' : dpB (oH o b x) b := dpB_w hB (fun j c => oH_o)
      obtain ⟨j, j1, j2, j3, j4, j5, j6⟩ := dpf_ex1 hx 8 h
      refine dpf_ex0 8 (fun i i1 i2 i3 i4 => ?_) ⟨j, j1, j2, ?_, ih _ (mk_or1 hs (by omega)) j6⟩
      · have r := (dpt_r (h := 0) (C := C) hB' k (by omega) _ (mk_or1 hs (show 0 ≤ (i : Int) ∧ (i : Int) < 8 by omega))).1.resolve_right i4
        have bb := hB' i (7 - k) (by omega) (by omega) (by omega) (by omega) i3
        unfold dpF
        omega
      · unfold oH
        rw [Bool.and_eq_true, decide_eq_true_eq]
        exact ⟨j3, j5⟩
    · rw [if_neg hC] at h ⊢
      exact ih s hs h
noncomputable def vHv (m : jM) : Int := (dpt 1 (iO m) (rBu m) (rC (m 104)) 8 0).1
noncomputable def vHc (m : jM) : Int := pcn (fun p => iO m (p / 8) (p % 8) && decide (vHv m < rBu m (p / 8) (p % 8))) 64
noncomputable def vHt (m : jM) : Int := (dpt 0 (oH (iO m) (rBu m) (vHv m)) (rBu m) (rC (m 104)) 8 0).1
noncomputable def vFr (m : jM) (w : Int) : Int := if vHv m = dpF then -4611686018427387904 else if w = 0 then vHv m else if w = 2 then vHc m else vHt m
theorem vFr_q {m m' : jM} (h : ∀ q, 104 ≤ q → q ≤ 117 → m' q = m q) : vHv m' = vHv m ∧ vHc m' = vHc m ∧ vHt m' = vHt m := by
  have e1 := h 104 (by omega) (by omega)
  have e2 := iO_q h
  have e3 := rBu_q (m' := m') (m := m) (fun q a b => h q (by omega) b)
  have v : vHv m' = vHv m := by unfold vHv; rw [e1, e2, e3]
  refine ⟨v, ?_, ?_⟩
  · unfold vHc; rw [v, e2, e3]
  · unfold vHt; rw [v, e1, e2, e3]
theorem vHv_r {m : jM} (h : Inv m) : dpR 8 (dpt 1 (iO m) (rBu m) (rC (m 104)) 8 0) := dpt_r (Inv_B h) 8 (Nat.le_refl 8) 0 mk_0
theorem vHt_F {m : jM} (h : Inv m) (g : vHv m ≠ dpF) : vHt m ≠ dpF := by
  have r := (vHv_r h).1.resolve_right g
  exact dp_hv (Inv_B h) (show vHv m < dpF by unfold vHv dpF; omega) 8 (Nat.le_refl 8) 0 mk_0 (Int.le_refl _)
theorem s_heavierThan {d : Nat} {x : Int} {m : jM} {f : Int → Bool} {Q : Int → jM → Prop} (hf : ∀ p : Int, 0 ≤ p → p < 64 → f p = (pO (m 57) (p / 8) (p % 8) && decide (x < m 56 p))) (h : Q (pcn f 64) m) : jK (d + 2) zX4_heavierThan [jO 4 54, jL x] m Q := by
  have loop : ∀ (k : Nat) (i : Int), 0 ≤ i → i + k = 64 → aX4_heavierThan_5 (d + 1) 54 x (pcn f i.toNat) i m Q := by
    intro k
    induction k with
    | zero =>
      intro i i0 ik
      refine gX4_heavierThan_5 (d + 1) 54 x _ i m Q ⟨fun q => by omega, fun _ => ?_⟩
      rw [show i = 64 by omega]
      exact h
    | succ k ih =>
      intro i i0 ik
      have n := ih (i + 1) (by omega) (by omega)
      have b := pcn_nn f i.toNat
      rw [pcn_s _ _ i0, hf i i0 (by omega)] at n
      refine gX4_heavierThan_5 (d + 1) 54 x _ i m Q ⟨fun q => ⟨by omega, by omega, ?_⟩, fun q => by omega⟩
      rw [iDiv_nn i0 (by omega) (by omega), iRem_nn i0]
      refine s_isOpen (p := 54) (by omega) (by omega) ⟨fun g => ?_, fun g => ⟨by omega, fun g2 => ?_, fun g2 => ?_⟩⟩ <;> rw [bI_0] at g <;> rw [w32_id (z := i + 1) (by omega) (by omega), w32_id (by omega) (by omega)]
      · have g' : ¬ pO (m 57) (i / 8) (i % 8) = true := g
        rw [if_neg (by simp [g'])] at n; exact n
      · have g' : pO (m 57) (i / 8) (i % 8) = true := Classical.not_not.mp g
        have g2' : x < m 56 i := g2
        rw [if_pos (by simp [g', g2'])] at n; exact n
      · have g2' : ¬ x < m 56 i := g2
        rw [if_neg (by simp [g2'])] at n; exact n
  exact gX4_heavierThan (d + 1) 54 x m Q (loop 64 0 (by omega) (by omega))
theorem s_closeHeavier {d : Nat} {x : Int} {m : jM} {Q : Int → jM → Prop} (hr : ∀ c : Int, 0 ≤ c → c < 8 → mk8 (m 65 c)) (h : ∀ m' : jM, (∀ q, q ≠ 65 → m' q = m q) → (∀ c : Int, 0 ≤ c → c < 8 → mk8 (m' 65 c) ∧ ∀ j : Int, 0 ≤ j → j < 8 → bt (m' 65 c) j = (bt (m 65 c) j && !decide (x < m 64 (8 * j + c)))) → Q 0 m') : jK (d + 1) zX4_closeHeavier [jO 4 62, jL x] m Q := by
  have loop : ∀ (k : Nat) (i : Int) (mm : jM), 0 ≤ i → i + k = 64 → (∀ q, q ≠ 65 → mm q = m q) → (∀ c : Int, 0 ≤ c → c < 8 → mk8 (mm 65 c) ∧ ∀ j : Int, 0 ≤ j → j < 8 → bt (mm 65 c) j = (bt (m 65 c) j && !decide (8 * j + c < i ∧ x < m 64 (8 * j + c)))) → aX4_closeHeavier_2 d 62 x i mm Q := by
    intro k
    induction k with
    | zero =>
      intro i mm i0 ik f e
      refine gX4_closeHeavier_2 d 62 x i mm Q ⟨fun q => by omega, fun _ => h mm f (fun c c1 c2 => ⟨(e c c1 c2).1, fun j j1 j2 => ?_⟩)⟩
      rw [(e c c1 c2).2 j j1 j2]
      have : 8 * j + c < i := by omega
      simp only [this, true_and]
    | succ k ih =>
      intro i mm i0 ik f e
      have e64 : mm (62 + 2) = m 64 := f 64 (by omega)
      refine gX4_closeHeavier_2 d 62 x i mm Q ⟨fun q => ⟨by omega, fun g => ⟨by omega, ?_, by omega, ?_, ?_⟩, fun g => ?_⟩, fun q => by omega⟩
      · rw [iRem_nn i0]; omega
      · rw [iRem_nn i0]; omega
      · rw [iRem_nn i0, iDiv_nn i0 (by omega) (by omega), w32_id (by omega) (by omega)]
        rw [e64] at g
        refine ih (i + 1) _ (by omega) (by omega) (fun q hq => by rw [up_ne (show ¬ q = 62 + 3 by omega)]; exact f q hq) (fun c c1 c2 => ?_)
        show mk8 (jUp mm 65 (i % 8) (iAnd (mm 65 (i % 8)) (iXor (iShl 1 (i / 8)) (-1))) 65 c) ∧ ∀ j : Int, 0 ≤ j → j < 8 → bt (jUp mm 65 (i % 8) (iAnd (mm 65 (i % 8)) (iXor (iShl 1 (i / 8)) (-1))) 65 c) j = _
        obtain ⟨ea, eb⟩ := e c c1 c2
        rw [up_eq]
        by_cases hc : c = i % 8
        · rw [if_pos hc, ← hc]
          refine ⟨mk_andl ea, fun j j1 j2 => ?_⟩
          rw [bt_and, bt_not (by omega), bt_one (by omega) (by omega), eb j j1 j2]
          by_cases hj : j = i / 8
          · have : 8 * j + c = i := by omega
            have hlt : i < i + 1 := by omega
            rw [this]
            simp [hj, g, hlt]
          · have : (8 * j + c < i) ↔ (8 * j + c < i + 1) := by omega
            simp [hj, this]
        · rw [if_neg hc]
          refine ⟨ea, fun j j1 j2 => ?_⟩
          rw [eb j j1 j2]
          have : (8 * j + c < i) ↔ (8 * j + c < i + 1) := by omega
          simp [this]
      · rw [w32_id (by omega) (by omega)]
        rw [e64] at g
        refine ih (i + 1) mm (by omega) (by omega) f (fun c c1 c2 => ⟨(e c c1 c2).1, fun j j1 j2 => ?_⟩)
        rw [(e c c1 c2).2 j j1 j2]
        by_cases hx : 8 * j + c = i
        · rw [hx]; simp [g]
        · have : (8 * j + c < i) ↔ (8 * j + c < i + 1) := by omega
          simp [this]
  exact gX4_closeHeavier d 62 x m Q (loop 64 0 m (by omega) (by omega) (fun _ _ => rfl) (fun c c1 c2 => ⟨hr c c1 c2, fun j j1 j2 => by
    have : ¬ 8 * j + c < 0 := by omega
    simp [this]⟩))
theorem c_fair {d : Nat} {w : Int} {m : jM} {Q : Int → jM → Prop} (h : Inv m) (hd : 20 ≤ d) (hB : ¬ (0 ≤ w ∧ w ≤ 2) → Q (-4611686018427387904) m) (hQ : (0 ≤ w ∧ w ≤ 2) → ∀ m', Inv m' → cQt m m' → Q (vFr m' w) m') : jK d zX10_fair [jO 10 0, jI w] m Q := by
  refine jK_deep (show 19 + 1 ≤ d by omega) (gX10_fair 19 w m Q ⟨fun g => hB (by omega), fun g => ⟨fun g2 => hB (by omega), fun g2 => ?_⟩⟩)
  have gg : 0 ≤ w ∧ w ≤ 2 := by omega
  refine r_plan h (fun m1 h1 p1 pl1 q1 => jK_deep (show 0 + 1 ≤ 19 by omega) (s_take62 (fun m2 f2 e62 e62' e64 e65 => ?_))) (by omega)
  have hB1 := Inv_B h1
  have al := al_th pl1 e62 e64 e65
  have b62 : mk8 (m2 62 0) := by rw [e62, pl1.1]; exact h1.1.2.1
  have r65 : ∀ c : Int, 0 ≤ c → c < 8 → mk8 (m2 65 c) := fun c a b => by rw [e65 c a b]; exact pl1.2.1 c a b
  have fin : ∀ (m3 : jM), (∀ q, q ≠ 62 → q ≠ 63 → q ≠ 64 → q ≠ 65 → q ≠ 66 → q ≠ 67 → m3 q = m1 q) → Q (vFr m1 w) m3 := by
    intro m3 fr
    have h3 : Inv m3 := Inv_cq h1 (fun q _ a => fr q (by omega) (by omega) (by omega) (by omega) (by omega) (by omega)) (fr 0 (by omega) (by omega) (by omega) (by omega) (by omega) (by omega))
    have := hQ gg m3 h3 (cQt_t q1 ⟨fun q a b => fr q (by omega) (by omega) (by omega) (by omega) (by omega) (by omega), fun j _ => by rw [fr 0 (by omega) (by omega) (by omega) (by omega) (by omega) (by omega)]⟩)
    obtain ⟨a1, a2, a3⟩ := vFr_q (m' := m3) (m := m1) (fun q a b => fr q (by omega) (by omega) (by omega) (by omega) (by omega) (by omega))
    unfold vFr at this ⊢
    rw [a1, a2, a3] at this
    exact this
  refine th_weigh (h := 1) (o := iO m1) (b := rBu m1) (C := rC (m1 104)) b62 r65 (alk_B (alk_s al) hB1) (alk_dp al 1 (Nat.le_refl 8) 0) (by omega) (fun m3 f3 e30 e3 => ⟨by omega, ?_⟩)
  have fr3 : ∀ q, q ≠ 62 → q ≠ 63 → q ≠ 64 → q ≠ 65 → q ≠ 66 → q ≠ 67 → m3 q = m1 q := fun q a b c d e f => by rw [f3 q a b e f, f2 q a c d]
  have e3' : m3 66 0 = toN (vHv m1) := e3
  have hn := toN_no (vHv_r h1)
  have fq := fin m3 fr3
  rw [e3']
  by_cases hF : vHv m1 = dpF
  · unfold vFr at fq
    rw [if_pos hF] at fq
    rw [hF, toN_F]
    exact ⟨fun _ => fq, fun x => absurd rfl x⟩
  · have eN : toN (vHv m1) = vHv m1 := toN_n hF
    have hnn : ¬ toN (vHv m1) = -4611686018427387904 := fun x => hF (hn.mp x)
    rw [eN] at hnn ⊢
    unfold vFr at fq
    rw [if_neg hF] at fq
    refine ⟨fun x => absurd x hnn, fun _ => ⟨fun w0 => ?_, fun w0 => ⟨fun w2 => ?_, fun w2 => ?_⟩⟩⟩
    · rw [if_pos w0] at fq; exact fq
    · rw [if_neg w0, if_pos w2] at fq
      have rb : ∀ q, q = 56 ∨ q = 57 → m3 q = m1 q := fun q hq => fr3 q (by omega) (by omega) (by omega) (by omega) (by omega) (by omega)
      refine jK_deep (show 0 + 2 ≤ 19 by omega) (s_heavierThan (f := fun p => iO m1 (p / 8) (p % 8) && decide (vHv m1 < rBu m1 (p / 8) (p % 8))) (fun p p1 p2 => ?_) fq)
      rw [rb 56 (by omega), rb 57 (by omega), pl1.2.2.1.2.1 (p / 8) (p % 8) (by omega) (by omega) (by omega) (by omega)]
      by_cases ho : iO m1 (p / 8) (p % 8) = true
      · have := pl1.2.2.1.2.2 (p / 8) (p % 8) (by omega) (by omega) (by omega) (by omega) (by rw [pl1.2.2.1.2.1 (p / 8) (p % 8) (by omega) (by omega) (by omega) (by omega)]; exact ho)
        unfold rB at this
        rw [← this, show 8 * (p / 8) + p % 8 = p by omega]
      · simp [ho]
    · rw [if_neg w0, if_neg w2] at fq
      refine jK_deep (show 0 + 1 ≤ 19 by omega) (s_closeHeavier (fun c a b => by rw [f3 65 (by omega) (by omega) (by omega) (by omega)]; exact r65 c a b) (fun m4 f4 e4 => ?_))
      have alH : alk (pO (m4 65)) (rB (m4 64)) (bt (m4 62 0)) (oH (iO m1) (rBu m1) (vHv m1)) (rBu m1) (rC (m1 104)) := by
        have e64' : m4 64 = m2 64 := by rw [f4 64 (by omega), f3 64 (by omega) (by omega) (by omega) (by omega)]
        have ho : ∀ j' c' : Int, 0 ≤ j' → j' < 8 → 0 ≤ c' → c' < 8 → pO (m4 65) j' c' = oH (iO m1) (rBu m1) (vHv m1) j' c' := by
          intro j' c' a b x y
          unfold oH
          rw [← al.2.1 j' c' a b x y]
          unfold pO
          rw [(e4 c' x y).2 j' a b, f3 65 (by omega) (by omega) (by omega) (by omega), f3 64 (by omega) (by omega) (by omega) (by omega)]
          by_cases hb : bt (m2 65 c') j' = true
          · have := al.2.2 j' c' a b x y hb
            unfold rB at this
            rw [this, hb]
            by_cases hl : vHv m1 < rBu m1 j' c'
            · have : ¬ rBu m1 j' c' ≤ vHv m1 := by omega
              simp [hl, this]
            · have : rBu m1 j' c' ≤ vHv m1 := by omega
              simp [hl, this]
          · simp [hb]
        rw [e64', f4 62 (by omega), e30]
        exact ⟨al.1, ho, fun j' c' a b x y z => al.2.2 j' c' a b x y (by rw [al.2.1 j' c' a b x y]; rw [ho j' c' a b x y] at z; exact oH_o z)⟩
      refine th_weigh (by rw [f4 62 (by omega), e30]; exact b62) (fun c a b => (e4 c a b).1) (alk_B (alk_s alH) (dpB_w hB1 (fun j c => oH_o))) (alk_dp alH 0 (Nat.le_refl 8) 0) (by omega) (fun m5 f5 _ e5 => ⟨by omega, ?_⟩)
      have e5' : m5 66 0 = toN (vHt m1) := e5
      rw [e5', toN_n (vHt_F h1 hF)]
      have fin5 := fin m5 (fun q a b c d e f => by rw [f5 q a b e f, f4 q d, fr3 q a b c d e f])
      unfold vFr at fin5
      rw [if_neg hF, if_neg w0, if_neg w2] at fin5
      exact fin5
theorem q_fair {d : Nat} {w : Int} {m : jM} {Q : Int → jM → Prop} (h : Inv m) (hd : 330 ≤ d) (hB : ¬ (0 ≤ w ∧ w ≤ 2) → Q (-4611686018427387904) m) (hQ : (0 ≤ w ∧ w ≤ 2) → ∀ m', rQt m m' → Q (vFr m w) m') : jK d zX11_fair [jO 11 103, jI w] m Q := by
  refine jK_deep (show 329 + 1 ≤ d by omega) (gX11_fair 329 w m Q (s_in ⟨fun g => ?_, fun g => ?_⟩))
  · rw [bI_0] at g; exact hB g
  · rw [bI_0, Classical.not_not] at g
    have hB0 := Inv_B h
    refine q_costs h (by omega) (fun m1 h1 q1 al _ => jK_deep (show 0 + 2 ≤ 329 by omega) (s_heaviest (alk_B (alk_s al) hB0) (fun m2 f2 => ?_)))
    rw [alk_dp al 1 (Nat.le_refl 8) 0]
    have q2 : rQt m m2 := rQt_t q1 ⟨fun q a b c => f2 q (by omega), fun j _ => by rw [f2 103 (by omega)]⟩
    have ev : (dpt 1 (iO m) (rBu m) (rC (m 104)) 8 0).1 = vHv m := rfl
    rw [ev]
    refine ⟨fun hF => ?_, fun hF => ⟨fun w0 => ?_, fun w0 => ?_⟩⟩
    · have := hQ g m2 q2
      unfold vFr at this
      rw [if_pos (show vHv m = dpF from hF)] at this
      exact this
    · have := hQ g m2 q2
      unfold vFr at this
      rw [if_neg (show ¬ vHv m = dpF from hF), if_pos w0] at this
      exact this
    · have hF' : ¬ vHv m = dpF := hF
      have loop : ∀ (k : Nat) (i : Int) (mm : jM), 0 ≤ i → i + k = 64 → (∀ q, q ≠ 128 → mm q = m2 q) → (∀ p : Int, 0 ≤ p → p < 64 → mm 128 p = if p < i ∧ vHv m < m1 128 p then -1 else m1 128 p) → aX11_fair_49 329 w (vHv m) (pcn (fun p => iO m (p / 8) (p % 8) && decide (vHv m < rBu m (p / 8) (p % 8))) i.toNat) i mm Q := by
        intro k
        induction k with
        | zero =>
          intro i mm i0 ik f e
          refine gX11_fair_49 329 w _ _ i mm Q ⟨fun q => by omega, fun _ => ⟨fun w2 => ?_, fun w2 => ?_⟩⟩
          · have := hQ g mm (rQt_t q2 ⟨fun q a b c => f q (by omega), fun j _ => by rw [f 103 (by omega)]⟩)
            unfold vFr at this
            rw [if_neg hF', if_neg w0, if_pos w2] at this
            rw [show i = 64 by omega]
            exact this
          · have alH : alk (rO (mm 128)) (rB (mm 128)) (rC (mm 104)) (oH (iO m) (rBu m) (vHv m)) (rBu m) (rC (m 104)) := by
              refine ⟨fun c c1 c2 => by rw [f 104 (by omega), f2 104 (by omega)]; exact al.1 c c1 c2, fun j c j1 j2 c1 c2 => ?_, fun j c j1 j2 c1 c2 hO => ?_⟩
              · have eo := al.2.1 j c j1 j2 c1 c2
                have ebb := al.2.2 j c j1 j2 c1 c2
                rw [eo] at ebb
                unfold rO at eo ⊢
                unfold rB at ebb
                unfold oH
                rw [e _ (by omega) (by omega), ← eo]
                by_cases hx : m1 128 (8 * j + c) = -1
                · have : (if 8 * j + c < i ∧ vHv m < m1 128 (8 * j + c) then -1 else m1 128 (8 * j + c)) = -1 := by split <;> simp [hx]
                  rw [this, hx]; simp
                · have hb := ebb (by rw [← eo]; simp [hx])
                  rw [← hb]
                  by_cases hl : vHv m < m1 128 (8 * j + c)
                  · rw [if_pos ⟨by omega, hl⟩]
                    have : ¬ m1 128 (8 * j + c) ≤ vHv m := by omega
                    simp [this]
                  · rw [if_neg (fun y => hl y.2)]
                    have : m1 128 (8 * j + c) ≤ vHv m := by omega
                    simp [hx, this]
              · unfold rO at hO
                unfold rB
                rw [e _ (by omega) (by omega)] at hO ⊢
                by_cases hy : 8 * j + c < i ∧ vHv m < m1 128 (8 * j + c)
                · rw [if_pos hy] at hO; simp at hO
                · rw [if_neg hy] at hO ⊢
                  exact al.2.2 j c j1 j2 c1 c2 (by unfold rO; exact hO)
            refine q_least alH (dpB_w hB0 (fun j c => oH_o)) (by omega) (fun m5 f5 q5 _ _ => ?_)
            have := hQ g m5 (rQt_t q2 (rQt_t ⟨fun q a b c => f q (by omega), fun j _ => by rw [f 103 (by omega)]⟩ q5))
            unfold vFr at this
            rw [if_neg hF', if_neg w0, if_neg w2] at this
            exact this
        | succ k ih =>
          intro i mm i0 ik f e
          have n := fun mm => ih (i + 1) mm (by omega) (by omega)
          rw [pcn_s _ _ i0] at n
          have b := pcn_nn (fun p => iO m (p / 8) (p % 8) && decide (vHv m < rBu m (p / 8) (p % 8))) i.toNat
          have ei : mm 128 i = m1 128 i := by rw [e i i0 (by omega), if_neg (by omega)]
          have eo := al.2.1 (i / 8) (i % 8) (by omega) (by omega) (by omega) (by omega)
          have ebb := al.2.2 (i / 8) (i % 8) (by omega) (by omega) (by omega) (by omega)
          rw [eo] at ebb
          unfold rO at eo
          unfold rB at ebb
          rw [show 8 * (i / 8) + i % 8 = i by omega] at eo ebb
          have vb : -1 ≤ vHv m := by have := (vHv_r h).1; unfold vHv; unfold dpF at this; omega
          refine gX11_fair_49 329 w _ _ i mm Q ⟨fun q => ⟨by omega, fun g2 => ?_, fun g2 => ⟨by omega, fun g3 => ⟨by omega, ?_⟩, fun g3 => ?_⟩⟩, fun q => by omega⟩
          · rw [ei] at g2
            have ho : iO m (i / 8) (i % 8) = false := by rw [← eo]; simp [g2]
            rw [if_neg (by simp [ho]), Int.add_zero] at n
            rw [w32_id (by omega) (by omega)]
            refine n mm f (fun p p1 p2 => ?_)
            rw [e p p1 p2]
            by_cases hp : p = i
            · rw [hp, if_neg (by omega), if_neg (by rw [g2]; omega)]
            · have : (p < i) ↔ (p < i + 1) := by omega
              simp only [this]
          · rw [ei] at g2 g3
            have ho : iO m (i / 8) (i % 8) = true := by rw [← eo]; simp [g2]
            have hb := ebb ho
            rw [if_pos (by rw [← hb]; simp [ho, g3])] at n
            rw [w32_id (z := i + 1) (by omega) (by omega), w32_id (by omega) (by omega)]
            refine n _ (fun q hq => by rw [up_ne hq]; exact f q hq) (fun p p1 p2 => ?_)
            rw [up_eq]
            by_cases hp : p = i
            · rw [if_pos hp, hp, if_pos ⟨by omega, g3⟩]
            · rw [if_neg hp, e p p1 p2]
              have : (p < i) ↔ (p < i + 1) := by omega
              simp only [this]
          · rw [ei] at g2 g3
            have ho : iO m (i / 8) (i % 8) = true := by rw [← eo]; simp [g2]
            have hb := ebb ho
            rw [if_neg (by rw [← hb]; simp [g3]), Int.add_zero] at n
            rw [w32_id (by omega) (by omega)]
            refine n mm f (fun p p1 p2 => ?_)
            rw [e p p1 p2]
            by_cases hp : p = i
            · rw [hp, if_neg (by omega), if_neg (fun y => g3 y.2)]
            · have : (p < i) ↔ (p < i + 1) := by omega
              simp only [this]
      exact loop 64 0 m2 (by omega) (by omega) (fun _ _ => rfl) (fun p p1 p2 => by rw [if_neg (by omega), f2 128 (by omega)])

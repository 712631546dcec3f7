/-! the i-th best one: picks() of the reference, pick of the class's plan -/
theorem drop_cons {T : List Int} {c : Nat} {j : Int} {l : List Int} (h : T.drop c = j :: l) (v : Int) : T.getD c v = j ∧ T.drop (c + 1) = l := by
  constructor
  · rw [List.getD_eq_getElem?_getD, ← List.head?_drop, h]; rfl
  · rw [← List.drop_drop, h]; rfl
theorem fm_get {α : Type} {a b : List α} {i : Nat} : (a ++ b)[i]? = if i < a.length then a[i]? else b[i - a.length]? := by
  rw [List.getElem?_append]
theorem dpt_pos {o : Int → Int → Bool} {b : Int → Int → Int} {C : Int → Bool} (hB : dpB o b) {k : Nat} (hk : k ≤ 8) {s : Int} (hs : mk8 s) : 0 ≤ (dpt 0 o b C k s).2 ∧ (dpt 0 o b C k s).2 ≤ 16777216 := by
  have h1 := dpt_r (h := 0) (C := C) hB k hk s hs
  have h2 := dpt_pow hk
  exact ⟨h1.2.1, Int.le_trans h1.2.2 h2⟩
theorem s_picks {d : Nat} {i : Int} {T : List Int} {m : jM} {Q : Int → jM → Prop} (hB : dpB (rO (m 128)) (rB (m 128))) (hL : rLT m) (h0 : 0 ≤ i ∧ i ≤ 2147483647) (hT : (bst (rO (m 128)) (rB (m 128)) (rC (m 104)) 8 0)[i.toNat]? = some T)
    (h : ∀ m', (∀ q, q ≠ 131 → m' q = m q) → (∀ c : Int, 0 ≤ c → c < 8 → m' 131 c = T.getD c.toNat (-1)) → Q 0 m') : jK (d + 2) zX11_picks [jO 11 103, jI i] m Q := by
  generalize ho : rO (m 128) = o at *
  generalize hb : rB (m 128) = b at *
  generalize hCC : rC (m 104) = C at *
  unfold rLT rEn at hL
  rw [ho, hb, hCC] at hL
  have L7 : ∀ (k : Nat) (c left set : Int) (m1 : jM), c + k = 8 → 0 ≤ c → mk8 set → (0 ≤ left ∧ left ≤ 2147483647) → (∀ q, q ≠ 131 → m1 q = m q) → (∀ c' : Int, 0 ≤ c' → c' < c → m1 131 c' = T.getD c'.toNat (-1)) → (bst o b C k set)[left.toNat]? = some (T.drop c.toNat) → aX11_picks_7 (d + 1) left set c m1 Q := by
    intro k
    induction k with
    | zero =>
      intro c left set m1 hc hc0 hs hl hf hlow hi
      refine gX11_picks_7 (d + 1) left set c m1 Q ⟨fun q => by omega, fun _ => ?_⟩
      rw [show c = 8 by omega] at hlow
      exact h m1 hf hlow
    | succ k ih =>
      intro c left set m1 hc hc0 hs hl hf hlow hi
      have ec : 7 - (k : Int) = c := by omega
      have ec1 : w32 (c + 1) = c + 1 := w32_id (by omega) (by omega)
      -- behind the scan
      have fin : ∀ (j left' : Int) (m2 : jM), (∀ q, q ≠ 131 → m2 q = m q) → (∀ c' : Int, 0 ≤ c' → c' < c → m2 131 c' = T.getD c'.toNat (-1)) → m2 131 c = j → (0 ≤ left' ∧ left' ≤ 2147483647) → ((j = -1 ∧ ∃ l, T.drop c.toNat = (-1) :: l ∧ (bst o b C k set)[left'.toNat]? = some l) ∨ ((0 ≤ j ∧ j < 8) ∧ ∃ l, T.drop c.toNat = j :: l ∧ (bst o b C k (iOr set (iShl 1 j)))[left'.toNat]? = some l)) → aX11_picks_196 (d + 1) left' set c m2 Q := by
        intro j left' m2 g1 g2 g3 g4 g5
        refine gX11_picks_196 (d + 1) left' set c m2 Q ⟨by omega, fun q => ?_, fun q => ⟨by omega, ?_⟩⟩
        · rw [ec1]
          rcases g5 with ⟨e1, l, e2, e3⟩ | ⟨e1, _⟩
          · obtain ⟨d1, d2⟩ := drop_cons e2 (-1)
            refine ih (c + 1) left' set m2 (by omega) (by omega) hs g4 g1 (fun c' k1 k2 => ?_) (by rw [show (c + 1).toNat = c.toNat + 1 by omega, d2]; exact e3)
            by_cases hcc : c' = c
            · rw [hcc, g3, e1, d1]
            · exact g2 c' k1 (by omega)
          · omega
        · rw [ec1, g3]
          rcases g5 with ⟨e1, l, e2, e3⟩ | ⟨e0, l, e2, e3⟩
          · omega
          · obtain ⟨d1, d2⟩ := drop_cons e2 (-1)
            refine ih (c + 1) left' (iOr set (iShl 1 j)) m2 (by omega) (by omega) (mk_or1 hs e0) g4 g1 (fun c' k1 k2 => ?_) (by rw [show (c + 1).toNat = c.toNat + 1 by omega, d2]; exact e3)
            by_cases hcc : c' = c
            · rw [hcc, g3, d1]
            · exact g2 c' k1 (by omega)
      have hcx : 0 ≤ c ∧ c < 8 := by omega
      refine gX11_picks_7 (d + 1) left set c m1 Q ⟨fun _ => ⟨hcx, ?_⟩, fun q => by omega⟩
      have hf2 : ∀ q, q ≠ 131 → jUp m1 131 c (-1) q = m q := fun q hq => by rw [up_ne hq]; exact hf q hq
      have hl2 : ∀ c' : Int, 0 ≤ c' → c' < c → jUp m1 131 c (-1) 131 c' = T.getD c'.toNat (-1) := fun c' k1 k2 => by rw [up_oth (by omega)]; exact hlow c' k1 k2
      generalize hm2 : jUp m1 131 c (-1) = m2 at *
      have hm2c : m2 131 c = -1 := by rw [← hm2]; exact up_same
      by_cases hC : C c = true
      · rw [bst_in hB (by omega) hs (by rw [ec]; exact hC), fmr_8] at hi
        have scan : ∀ (r : Nat) (n left' : Int), 0 ≤ n → n + r = 8 → (0 ≤ left' ∧ left' ≤ 2147483647) → (fmr (fun j => if ldg o b C k set j = true then (bst o b C k (iOr set (iShl 1 j))).map (fun l => j :: l) else []) r n)[left'.toNat]? = some (T.drop c.toNat) → aX11_picks_25 (d + 1) left' set c n m2 Q := by
          intro r
          induction r with
          | zero =>
            intro n left' _ _ _ g
            simp [fmr] at g
          | succ r ihr =>
            intro n left' hn0 hn hl' g
            have ej : w32 (n + 1) = n + 1 := w32_id (by omega) (by omega)
            have hor := mk_or1 hs (k := n) ⟨by omega, by omega⟩
            have hor2 : 0 ≤ iOr set (iShl 1 n) ∧ iOr set (iShl 1 n) < 256 := hor
            have e3 : w32 (w32 (8 * n) + c) = 8 * n + c := by simp (disch := omega) only [w32_id]
            have e4 : w32 (w32 (w32 (c + 1) * 256) + iOr set (iShl 1 n)) = (8 - (k : Int)) * 256 + iOr set (iShl 1 n) := by
              simp (disch := omega) only [w32_id]; omega
            have hs2 : 0 ≤ set ∧ set < 256 := hs
            have e5 : w32 (w32 (c * 256) + set) = (8 - ((k + 1 : Nat) : Int)) * 256 + set := by
              simp (disch := omega) only [w32_id]; omega
            have t1 := hL k (by omega) _ hor
            have t2 := hL (k + 1) (by omega) _ hs
            have f0 := hf2 129 (by omega)
            have f1 := hf2 130 (by omega)
            have f9 := hf2 128 (by omega)
            have hpos := dpt_pos (C := C) hB (show k ≤ 8 by omega) hor
            have hlen := bst_len (C := C) hB (show k ≤ 8 by omega) hor
            have hoj : o n c = decide (m2 128 (8 * n + c) ≠ -1) := by rw [f9, ← ho]; rfl
            have hbj : b n c = m2 128 (8 * n + c) := by rw [f9, ← hb]; rfl
            unfold fmr at g
            have skip : ¬ ldg o b C k set n = true → aX11_picks_25 (d + 1) left' set c (w32 (n + 1)) m2 Q := by
              intro hn2
              rw [if_neg hn2, List.nil_append] at g
              rw [ej]
              exact ihr (n + 1) left' (by omega) (by omega) hl' g
            refine gX11_picks_25 (d + 1) left' set c n m2 Q ⟨fun q => s_isCase hcx ⟨fun q2 => ?_, fun q2 => ⟨hcx, fun _ => ⟨fun q3 => skip ?_, fun q3 => ⟨by omega, fun q4 => skip ?_, fun q4 => ⟨by omega, fun q5 => skip ?_, fun q5 => ⟨by omega, by omega, by omega, fun q6 => ⟨by omega, ?_, ?_⟩, fun q6 => skip ?_⟩⟩⟩⟩, fun q3 => absurd hm2c q3⟩⟩, fun q => by omega⟩
            · rw [bI_0, hf2 104 (by omega), hCC] at q2; exact absurd hC q2
            · rw [bt_shr (by omega)] at q3
              intro hl3; unfold ldg at hl3; rw [q3] at hl3; simp at hl3
            · rw [e3] at q4
              intro hl3; unfold ldg at hl3; rw [ec, hoj, q4] at hl3; simp at hl3
            · rw [e4, f0, t1.1] at q5
              intro hl3; unfold ldg at hl3; rw [q5] at hl3; simp at hl3; exact hl3.1.2 rfl
            · rw [bt_shr (by omega)] at q3
              rw [e3] at q4
              rw [e4, f0, t1.1] at q5
              have hbr := hB n c (by omega) (by omega) (by omega) (by omega) (by rw [hoj]; simpa using q4)
              have hTr := dpt_r (h := 0) (C := C) hB k (by omega) _ hor
              have hx : 0 ≤ (dpt 0 o b C k (iOr set (iShl 1 n))).1 ∧ (dpt 0 o b C k (iOr set (iShl 1 n))).1 ≤ 1000000000 * k := by rcases hTr.1 with g | g; exact g; exact absurd g q5
              rw [e3, e4, e5, f0, t1.1, t2.1, ← hbj, w64_id (by omega) (by omega)] at q6
              have hld : ldg o b C k set n = true := by
                unfold ldg
                rw [ec, hoj]
                simp only [Bool.and_eq_true, decide_eq_true_eq, Bool.not_eq_true']
                exact ⟨⟨⟨by simpa using q3, q4⟩, q5⟩, q6⟩
              rw [if_pos hld, fm_get, List.length_map] at g
              rw [e4, f1, t1.2]
              intro q7
              rw [if_pos (by omega), List.getElem?_map] at g
              refine ⟨hcx, ?_⟩
              -- found: one more look, then on
              have hdone : ∀ m3 : jM, (∀ q, q ≠ 131 → m3 q = m q) → (∀ c' : Int, 0 ≤ c' → c' < c → m3 131 c' = T.getD c'.toNat (-1)) → m3 131 c = n → aX11_picks_196 (d + 1) left' set c m3 Q := by
                intro m3 k1 k2 k3
                refine fin n left' m3 k1 k2 k3 hl' (Or.inr ⟨by omega, ?_⟩)
                cases hx2 : (bst o b C k (iOr set (iShl 1 n)))[left'.toNat]? with
                | none => rw [hx2] at g; cases g
                | some l =>
                  rw [hx2] at g
                  exact ⟨l, (Option.some.inj g).symm, rfl⟩
              have k1 : ∀ q, q ≠ 131 → jUp m2 131 c n q = m q := fun q hq => by rw [up_ne hq]; exact hf2 q hq
              have k2 : ∀ c' : Int, 0 ≤ c' → c' < c → jUp m2 131 c n 131 c' = T.getD c'.toNat (-1) := fun c' k3 k4 => by rw [up_oth (by omega)]; exact hl2 c' k3 k4
              have k3 : jUp m2 131 c n 131 c = n := up_same
              refine gX11_picks_25 (d + 1) left' set c _ _ Q ⟨fun _ => s_isCase hcx ⟨fun _ => hdone _ k1 k2 k3, fun _ => ⟨hcx, fun q8 => by rw [k3] at q8; omega, fun _ => hdone _ k1 k2 k3⟩⟩, fun _ => hdone _ k1 k2 k3⟩
            · rw [bt_shr (by omega)] at q3
              rw [e3] at q4
              rw [e4, f0, t1.1] at q5
              have hbr := hB n c (by omega) (by omega) (by omega) (by omega) (by rw [hoj]; simpa using q4)
              have hTr := dpt_r (h := 0) (C := C) hB k (by omega) _ hor
              have hx : 0 ≤ (dpt 0 o b C k (iOr set (iShl 1 n))).1 ∧ (dpt 0 o b C k (iOr set (iShl 1 n))).1 ≤ 1000000000 * k := by rcases hTr.1 with g | g; exact g; exact absurd g q5
              rw [e3, e4, e5, f0, t1.1, t2.1, ← hbj, w64_id (by omega) (by omega)] at q6
              have hld : ldg o b C k set n = true := by
                unfold ldg
                rw [ec, hoj]
                simp only [Bool.and_eq_true, decide_eq_true_eq, Bool.not_eq_true']
                exact ⟨⟨⟨by simpa using q3, q4⟩, q5⟩, q6⟩
              rw [if_pos hld, fm_get, List.length_map] at g
              rw [e4, f1, t1.2]
              intro q7
              refine ⟨by omega, ?_⟩
              rw [if_neg (by omega)] at g
              rw [ej]
              have hw : w32 (left' - (dpt 0 o b C k (iOr set (iShl 1 n))).2) = left' - (dpt 0 o b C k (iOr set (iShl 1 n))).2 := w32_id (by omega) (by omega)
              rw [hw]
              refine ihr (n + 1) _ (by omega) (by omega) (by omega) ?_
              rw [show (left' - (dpt 0 o b C k (iOr set (iShl 1 n))).2).toNat = left'.toNat - (bst o b C k (iOr set (iShl 1 n))).length by omega]
              exact g
            · rw [bt_shr (by omega)] at q3
              rw [e3] at q4
              rw [e4, f0, t1.1] at q5
              have hbr := hB n c (by omega) (by omega) (by omega) (by omega) (by rw [hoj]; simpa using q4)
              have hTr := dpt_r (h := 0) (C := C) hB k (by omega) _ hor
              have hx : 0 ≤ (dpt 0 o b C k (iOr set (iShl 1 n))).1 ∧ (dpt 0 o b C k (iOr set (iShl 1 n))).1 ≤ 1000000000 * k := by rcases hTr.1 with g | g; exact g; exact absurd g q5
              rw [e3, e4, e5, f0, t1.1, t2.1, ← hbj, w64_id (by omega) (by omega)] at q6
              intro hl3
              unfold ldg at hl3
              simp only [Bool.and_eq_true, decide_eq_true_eq] at hl3
              rw [ec] at hl3
              exact q6 hl3.2
        exact scan 8 0 left (by omega) rfl hl hi
      · rw [bst_out (by rw [ec]; exact hC), List.getElem?_map] at hi
        refine gX11_picks_25 (d + 1) left set c 0 m2 Q ⟨fun _ => s_isCase hcx ⟨fun _ => ?_, fun q2 => ?_⟩, fun q => by omega⟩
        · refine fin (-1) left m2 hf2 hl2 hm2c hl (Or.inl ⟨rfl, ?_⟩)
          cases hx2 : (bst o b C k set)[left.toNat]? with
          | none => rw [hx2] at hi; cases hi
          | some l =>
            rw [hx2] at hi
            exact ⟨l, (Option.some.inj hi).symm, rfl⟩
        · rw [bI_0, Classical.not_not, hf2 104 (by omega), hCC] at q2; exact absurd q2 hC
  refine gX11_picks (d + 1) i m Q (L7 8 0 i 0 m (by omega) (by omega) mk_0 h0 (fun _ _ => rfl) (fun c' k1 k2 => by omega) ?_)
  rw [show (0 : Int).toNat = 0 from rfl, List.drop_zero]
  exact hT

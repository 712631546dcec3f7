/-! the class's Rounds -/
theorem s_isOpen {d : Nat} {p j c : Int} {m : jM} {Q : Int → jM → Prop} (hj : 0 ≤ j ∧ j < 8) (hc : 0 ≤ c ∧ c < 8) (h : Q (bI (pO (m (p + 3)) j c = true)) m) : jK (d + 1) zX4_isOpen [jO 4 p, jI j, jI c] m Q := by
  refine gX4_isOpen d p j c m Q ⟨by omega, fun q => ?_, fun q => ?_⟩ <;> rw [bt_shr (by omega)] at q <;> unfold pO at h
  · rw [bI_t q] at h; exact h
  · rw [bI_f q] at h; exact h
def fpF (O : Int → Int → Bool) (b : Int → Int → Int) (c : Int) : Nat → Int → Int → Int
  | 0, _, v => v
  | r + 1, j, v => fpF O b c r (j + 1) (if O j c = true then (if v = -1 then b j c else min v (b j c)) else v)
def rdP (O : Int → Int → Bool) (b : Int → Int → Int) (c : Int) : Int := if 0 ≤ c ∧ c < 8 then (if fpF O b c 8 0 (-1) = -1 then 0 else fpF O b c 8 0 (-1)) else 0
def rd0 (O : Int → Int → Bool) (b : Int → Int → Int) : (Int → Int) × (Int → Int) := (fun _ => 0, rdP O b)
theorem fpF_congr {O O' : Int → Int → Bool} {b b' : Int → Int → Int} (hO : ∀ j c : Int, 0 ≤ j → j < 8 → 0 ≤ c → c < 8 → O j c = O' j c) (hb : ∀ j c : Int, 0 ≤ j → j < 8 → 0 ≤ c → c < 8 → O j c = true → b j c = b' j c) {c : Int} (hc : 0 ≤ c ∧ c < 8) (r : Nat) : ∀ j v : Int, 0 ≤ j → j + r ≤ 8 → fpF O b c r j v = fpF O' b' c r j v := by
  induction r with
  | zero => intro j v _ _; rfl
  | succ r ih =>
    intro j v hj hr
    show fpF O b c r (j + 1) _ = fpF O' b' c r (j + 1) _
    rw [ih (j + 1) _ (by omega) (by omega), ← hO j c hj (by omega) hc.1 hc.2]
    by_cases h : O j c = true
    · rw [hb j c hj (by omega) hc.1 hc.2 h]
    · rw [if_neg h, if_neg h]
theorem rd0_congr {O O' : Int → Int → Bool} {b b' : Int → Int → Int} (hO : ∀ j c : Int, 0 ≤ j → j < 8 → 0 ≤ c → c < 8 → O j c = O' j c) (hb : ∀ j c : Int, 0 ≤ j → j < 8 → 0 ≤ c → c < 8 → O j c = true → b j c = b' j c) : rd0 O b = rd0 O' b' := by
  unfold rd0
  congr 1
  funext c
  unfold rdP
  by_cases hc : 0 ≤ c ∧ c < 8
  · rw [if_pos hc, if_pos hc, fpF_congr hO hb hc 8 0 (-1) (by omega) (by omega)]
  · rw [if_neg hc, if_neg hc]
theorem fpF_r {O : Int → Int → Bool} {b : Int → Int → Int} (hB : dpB O b) {c : Int} (hc : 0 ≤ c ∧ c < 8) (r : Nat) : ∀ j v : Int, 0 ≤ j → j + r ≤ 8 → (-1 ≤ v ∧ v ≤ 1000000000) → -1 ≤ fpF O b c r j v ∧ fpF O b c r j v ≤ 1000000000 := by
  induction r with
  | zero => intro j v _ _ h; exact h
  | succ r ih =>
    intro j v hj hr hv
    refine ih (j + 1) _ (by omega) (by omega) ?_
    split
    · rename_i g
      have := hB j c hj (by omega) hc.1 hc.2 g
      split <;> omega
    · exact hv
def in64 (x : Int) : Prop := -9223372036854775808 ≤ x ∧ x ≤ 9223372036854775807
theorem w64_in (x : Int) : in64 (w64 x) := by unfold in64 w64; omega
theorem s_firstPay {d : Nat} {c : Int} {m : jM} {Q : Int → jM → Prop} (hc : 0 ≤ c ∧ c < 8) (h : Q (rdP (pO (m 57)) (rB (m 56)) c) m) : jK (d + 2) zX5_firstPay [jO 5 75, jO 4 54, jI c] m Q := by
  have loop : ∀ (r : Nat) (v j : Int), 0 ≤ j → j + r = 8 → fpF (pO (m 57)) (rB (m 56)) c r j v = fpF (pO (m 57)) (rB (m 56)) c 8 0 (-1) → aX5_firstPay_7 (d + 1) c v j m Q := by
    intro r
    induction r with
    | zero =>
      intro v j hj hr e
      have e2 : v = fpF (pO (m 57)) (rB (m 56)) c 8 0 (-1) := e
      unfold rdP at h
      rw [if_pos hc, ← e2] at h
      refine gX5_firstPay_7 (d + 1) c v j m Q ⟨fun q => by omega, fun _ => ⟨fun q => ?_, fun q => ?_⟩⟩
      · rw [if_pos q] at h; exact h
      · rw [if_neg q] at h; exact h
    | succ r ih =>
      intro v j hj hr e
      have ej : w32 (j + 1) = j + 1 := w32_id (by omega) (by omega)
      have e1 : w32 (w32 (j * 8) + c) = 8 * j + c := by simp (disch := omega) only [w32_id]; omega
      have e2 : fpF (pO (m 57)) (rB (m 56)) c (r + 1) j v = fpF (pO (m 57)) (rB (m 56)) c r (j + 1) (if pO (m 57) j c = true then (if v = -1 then rB (m 56) j c else min v (rB (m 56) j c)) else v) := rfl
      rw [e2] at e
      have e3 : rB (m 56) j c = m 56 (8 * j + c) := rfl
      refine gX5_firstPay_7 (d + 1) c v j m Q ⟨fun _ => s_isOpen ⟨hj, by omega⟩ hc ⟨fun q => ?_, fun q => ⟨by omega, fun q2 => ?_, fun q2 => s_min ?_⟩⟩, fun q => by omega⟩ <;> rw [ej]
      · rw [bI_0, show (54 : Int) + 3 = 57 from rfl] at q
        rw [if_neg q] at e
        exact ih v (j + 1) (by omega) (by omega) e
      all_goals
        rw [bI_0, Classical.not_not] at q
        rw [if_pos (show pO (m 57) j c = true from q)] at e
        rw [e1]
      · rw [if_pos q2] at e
        exact ih _ (j + 1) (by omega) (by omega) e
      · rw [if_neg q2] at e
        exact ih _ (j + 1) (by omega) (by omega) e
  exact gX5_firstPay (d + 1) c m Q (loop 8 (-1) 0 (by omega) rfl rfl)
theorem s_slack {d : Nat} {j c : Int} {s : (Int → Int) × (Int → Int)} {m : jM} {Q : Int → jM → Prop} (hj : 0 ≤ j ∧ j < 8) (hc : 0 ≤ c ∧ c < 8) (h1 : m 78 j = s.1 j) (h2 : m 79 c = s.2 c) (h : Q (rdK (rB (m 56)) s j c) m) : jK (d + 1) zX5_slack [jO 5 75, jO 4 54, jI j, jI c] m Q := by
  have e1 : w32 (w32 (j * 8) + c) = 8 * j + c := by simp (disch := omega) only [w32_id]; omega
  refine gX5_slack d j c m Q ⟨by omega, hj, hc, ?_⟩
  rw [e1, h1, h2]
  exact h
theorem sv_add1 {f g : Int → Int} {t : Int} (ht : 0 ≤ t ∧ t < 8) (hne : ∀ x : Int, x ≠ t → g x = f x) (he : g t = f t + 1) : sv g 8 0 = sv f 8 0 + 1 := by
  rw [sv_up (f := f) (t := t) hne 8 0 (by omega) (by omega), he]; omega
theorem s_findTight {d : Nat} {s : (Int → Int) × (Int → Int)} {m : jM} {Q : Int → jM → Prop} (h1 : ∀ j : Int, 0 ≤ j → j < 8 → m 78 j = s.1 j) (h2 : ∀ c : Int, 0 ≤ c → c < 8 → m 79 c = s.2 c)
    (h : ∀ m' : jM, (∀ q, q ≠ 80 → m' q = m q) → (∀ c : Int, 0 ≤ c → c < 8 → mk8 (m' 80 c) ∧ ∀ j : Int, 0 ≤ j → j < 8 → bt (m' 80 c) j = rdE (pO (m 57)) (rB (m 56)) s j c) → Q (rdT (pO (m 57)) (rB (m 56)) s) m') : jK (d + 2) zX5_findTight [jO 5 75, jO 4 54] m Q := by
  generalize hE : rdE (pO (m 57)) (rB (m 56)) s = E at *
  have loop : ∀ (r : Nat) (n p : Int) (m1 : jM), 0 ≤ p → p + r = 64 → (∀ q, q ≠ 80 → m1 q = m q) → (∀ c : Int, 0 ≤ c → c < 8 → mk8 (m1 80 c) ∧ ∀ j : Int, 0 ≤ j → j < 8 → (bt (m1 80 c) j = true ↔ 8 * j + c < p ∧ E j c = true)) → n = sv (fun c => pc8 (m1 80 c)) 8 0 → aX5_findTight_12 (d + 1) n p m1 Q := by
    intro r
    induction r with
    | zero =>
      intro n p m1 hp hr f0 f1 f2
      have hb : ∀ c : Int, 0 ≤ c → c < 8 → ∀ j : Int, 0 ≤ j → j < 8 → bt (m1 80 c) j = E j c := by
        intro c c1 c2 j j1 j2
        have := (f1 c c1 c2).2 j j1 j2
        cases he : E j c with
        | true => rw [this]; exact ⟨by omega, he⟩
        | false =>
          cases hb : bt (m1 80 c) j with
          | false => rfl
          | true => rw [this.mp hb |>.2] at he; cases he
      refine gX5_findTight_12 (d + 1) n p m1 Q ⟨fun q => by omega, fun _ => ?_⟩
      have hQ := h m1 f0 (fun c c1 c2 => ⟨(f1 c c1 c2).1, hb c c1 c2⟩)
      have en : n = rdT (pO (m 57)) (rB (m 56)) s := by
        rw [f2]
        unfold rdT
        rw [hE]
        exact sv_congr _ _ (fun c c1 c2 => pcn_ext (fun j j1 j2 => hb c c1 (by omega) j j1 j2))
      rw [en]; exact hQ
    | succ r ih =>
      intro n p m1 hp hr f0 f1 f2
      have ep : w32 (p + 1) = p + 1 := w32_id (by omega) (by omega)
      have ed : iDiv p 8 = p / 8 := iDiv_nn hp (by omega) (by omega)
      have er : iRem p 8 = p % 8 := iRem_nn hp
      have hj : 0 ≤ p / 8 ∧ p / 8 < 8 := by omega
      have hc : 0 ≤ p % 8 ∧ p % 8 < 8 := by omega
      have k57 := f0 57 (by omega)
      have k56 := f0 56 (by omega)
      have hn : 0 ≤ n ∧ n ≤ 64 := by
        have : ∀ (r : Nat) (j : Int), 0 ≤ sv (fun c => pc8 (m1 80 c)) r j ∧ sv (fun c => pc8 (m1 80 c)) r j ≤ 8 * r := by
          intro r
          induction r with
          | zero => intro j; exact ⟨Int.le_refl _, Int.le_refl _⟩
          | succ r ih =>
            intro j
            have := ih (j + 1)
            have := pc8_r (m1 80 j)
            rw [sv_s]
            omega
        have := this 8 0
        omega
      have skip : ¬ E (p / 8) (p % 8) = true → aX5_findTight_12 (d + 1) n (w32 (p + 1)) m1 Q := by
        intro hn
        rw [ep]
        refine ih n (p + 1) m1 (by omega) (by omega) f0 (fun c c1 c2 => ⟨(f1 c c1 c2).1, fun j j1 j2 => ?_⟩) f2
        rw [(f1 c c1 c2).2 j j1 j2]
        constructor
        · intro g; exact ⟨by omega, g.2⟩
        · intro g
          refine ⟨?_, g.2⟩
          have : 8 * j + c ≠ p := by
            intro e
            apply hn
            rw [show p / 8 = j by omega, show p % 8 = c by omega]
            exact g.2
          omega
      have hEd : E (p / 8) (p % 8) = (pO (m 57) (p / 8) (p % 8) && decide (rdK (rB (m 56)) s (p / 8) (p % 8) = 0)) := by rw [← hE]; rfl
      refine gX5_findTight_12 (d + 1) n p m1 Q ⟨fun _ => ⟨by omega, by omega, ?_⟩, fun q => by omega⟩
      rw [ed, er]
      refine s_isOpen hj hc ⟨fun q => skip ?_, fun q => s_slack (s := s) hj hc (by rw [f0 78 (by omega)]; exact h1 _ hj.1 hj.2) (by rw [f0 79 (by omega)]; exact h2 _ hc.1 hc.2) ⟨fun q2 => ⟨hc, hc, ?_⟩, fun q2 => skip ?_⟩⟩
      · rw [bI_0, show (54 : Int) + 3 = 57 from rfl, k57] at q
        rw [hEd]; intro g; rw [Bool.and_eq_true] at g; exact q g.1
      · rw [bI_0, show (54 : Int) + 3 = 57 from rfl, k57, Classical.not_not] at q
        rw [k56] at q2
        have hEt : E (p / 8) (p % 8) = true := by rw [hEd, q, q2]; rfl
        obtain ⟨g1, g2⟩ := f1 (p % 8) hc.1 hc.2
        have hnb : bt (m1 80 (p % 8)) (p / 8) = false := by
          cases hb : bt (m1 80 (p % 8)) (p / 8) with
          | false => rfl
          | true =>
            have := ((g2 _ hj.1 hj.2).mp hb).1
            omega
        rw [ep, w32_id (z := n + 1) (by omega) (by omega)]
        refine ih (n + 1) (p + 1) _ (by omega) (by omega) (fun q hq => by rw [up_ne hq]; exact f0 q hq) (fun c c1 c2 => ?_) ?_
        · rw [up_eq]
          by_cases hcc : c = p % 8
          · rw [if_pos hcc]
            refine ⟨mk_or1 g1 hj, fun j j1 j2 => ?_⟩
            rw [bt_or1 hj ⟨j1, j2⟩, g2 j j1 j2, hcc]
            constructor
            · rintro (g | g)
              · exact ⟨by omega, g.2⟩
              · rw [g]; exact ⟨by omega, hEt⟩
            · intro g
              by_cases hjj : j = p / 8
              · exact Or.inr hjj
              · exact Or.inl ⟨by omega, g.2⟩
          · rw [if_neg hcc]
            refine ⟨(f1 c c1 c2).1, fun j j1 j2 => ?_⟩
            rw [(f1 c c1 c2).2 j j1 j2]
            exact ⟨fun g => ⟨by omega, g.2⟩, fun g => ⟨by omega, g.2⟩⟩
        · rw [f2]
          refine (sv_add1 (t := p % 8) hc (fun x hx => by rw [up_oth hx]) ?_).symm
          rw [up_same, pc8_1 hj hnb]
      · rw [k56] at q2
        rw [hEd]; intro g; rw [Bool.and_eq_true, decide_eq_true_eq] at g; exact q2 g.2
  refine gX5_findTight (d + 1) m Q (s_fillI (by omega) ?_)
  have e80 : ∀ c : Int, 0 ≤ c → c < 8 → jFil m 80 8 0 80 c = 0 := fun c c1 c2 => by unfold jFil; rw [if_pos ⟨rfl, c1, c2⟩]
  refine loop 64 0 0 _ (by omega) (by omega) (fun q hq => by funext x; unfold jFil; rw [if_neg (by rintro ⟨g, _⟩; exact hq g)]) (fun c c1 c2 => ?_) ?_
  · rw [e80 c c1 c2]
    exact ⟨mk_0, fun j j1 j2 => by rw [bt_0]; exact ⟨(fun g => by cases g), (fun g => by omega)⟩⟩
  · rw [sv_congr (g := fun _ => 0) 8 0 (fun c c1 c2 => by rw [e80 c c1 (by omega)]; exact pc8_0), sv_0]
theorem bt_not {x j : Int} (hj : 0 ≤ j ∧ j < 32) : bt (iXor x (-1)) j = !bt x j := by
  rw [bt_xor, bt_ones hj, Bool.xor_true]
theorem s_leastSlack {d : Nat} {A B : Int} {s : (Int → Int) × (Int → Int)} {m : jM} {Q : Int → jM → Prop} (h1 : ∀ j : Int, 0 ≤ j → j < 8 → m 78 j = s.1 j) (h2 : ∀ c : Int, 0 ≤ c → c < 8 → m 79 c = s.2 c)
    (h : Q (rdV (pO (m 57)) (rB (m 56)) s A B 64 0 (-1)) m) : jK (d + 2) zX5_leastSlack [jO 5 75, jO 4 54, jI A, jI (iXor B (-1))] m Q := by
  have loop : ∀ (r : Nat) (v p : Int), 0 ≤ p → p + r = 64 → rdV (pO (m 57)) (rB (m 56)) s A B r p v = rdV (pO (m 57)) (rB (m 56)) s A B 64 0 (-1) → aX5_leastSlack_8 (d + 1) A (iXor B (-1)) v p m Q := by
    intro r
    induction r with
    | zero =>
      intro v p hp hr e
      refine gX5_leastSlack_8 (d + 1) A _ v p m Q ⟨fun q => by omega, fun _ => ?_⟩
      rw [← e] at h
      exact h
    | succ r ih =>
      intro v p hp hr e
      have ep : w32 (p + 1) = p + 1 := w32_id (by omega) (by omega)
      have ed : iDiv p 8 = p / 8 := iDiv_nn hp (by omega) (by omega)
      have er : iRem p 8 = p % 8 := iRem_nn hp
      have hj : 0 ≤ p / 8 ∧ p / 8 < 8 := by omega
      have hc : 0 ≤ p % 8 ∧ p % 8 < 8 := by omega
      have e2 : rdV (pO (m 57)) (rB (m 56)) s A B (r + 1) p v = rdV (pO (m 57)) (rB (m 56)) s A B r (p + 1) (if pO (m 57) (p / 8) (p % 8) = true ∧ bt A (p % 8) = true ∧ bt B (p / 8) = false then (if v = -1 then rdK (rB (m 56)) s (p / 8) (p % 8) else min v (rdK (rB (m 56)) s (p / 8) (p % 8))) else v) := rfl
      rw [e2] at e
      have hask : iAnd (iAnd (iShr A (p % 8)) (iShr (iXor B (-1)) (p / 8))) 1 = 1 ↔ bt A (p % 8) = true ∧ bt B (p / 8) = false := by
        have a1 := bt_shr (x := A) (j := p % 8) (by omega)
        have a2 := bt_shr (x := iXor B (-1)) (j := p / 8) (by omega)
        rw [bt_not (by omega)] at a2
        have e0 : ∀ x y : Int, iAnd (iAnd x y) 1 = 1 ↔ iAnd x 1 = 1 ∧ iAnd y 1 = 1 := by
          intro x y
          have hb : ∀ x : Int, iAnd x 1 = if bt x 0 = true then 1 else 0 := by
            intro x
            have h31 : mk8 (iAnd x 1) := by
              refine mk_of (io_and _ _) (fun j j1 j2 => ?_)
              rw [bt_and, mk_big (show mk8 1 by unfold mk8; omega) ⟨j1, j2⟩, Bool.and_false]
            have b1 : ∀ j : Int, 0 ≤ j → j < 8 → bt 1 j = decide (j = 0) := by
              intro j j1 j2
              obtain ⟨n, rfl⟩ : ∃ n : Nat, j = n := ⟨j.toNat, by omega⟩
              have : ∀ n : Fin 8, bt 1 (n.val : Int) = decide ((n.val : Int) = 0) := by decide +kernel
              exact this ⟨n, by omega⟩
            split
            · rename_i g
              refine mk_ext h31 (by unfold mk8; omega) (fun j j1 j2 => ?_)
              rw [bt_and, b1 j j1 j2]
              by_cases hj : j = 0
              · rw [hj, g]; rfl
              · simp [hj]
            · rename_i g
              refine mk_ext h31 mk_0 (fun j j1 j2 => ?_)
              rw [bt_and, b1 j j1 j2, bt_0]
              by_cases hj : j = 0
              · rw [hj]; simp at g; rw [g]; rfl
              · simp [hj]
          rw [hb (iAnd x y), hb x, hb y, bt_and]
          cases bt x 0 <;> cases bt y 0 <;> simp
        rw [e0, a1, a2]
        cases bt B (p / 8) <;> simp
      have skip : ¬ (pO (m 57) (p / 8) (p % 8) = true ∧ bt A (p % 8) = true ∧ bt B (p / 8) = false) → aX5_leastSlack_8 (d + 1) A (iXor B (-1)) v (w32 (p + 1)) m Q := by
        intro hn
        rw [if_neg hn] at e
        rw [ep]
        exact ih v (p + 1) (by omega) (by omega) e
      refine gX5_leastSlack_8 (d + 1) A _ v p m Q ⟨fun _ => ⟨by omega, by omega, fun q => ⟨fun q2 => by omega, fun _ => ?_⟩, fun q => ⟨fun _ => skip ?_, fun q2 => absurd rfl q2⟩⟩, fun q => by omega⟩
      · rw [ed, er] at q ⊢
        rw [hask] at q
        refine s_isOpen hj hc ⟨fun q2 => skip ?_, fun q2 => s_slack (s := s) hj hc (h1 _ hj.1 hj.2) (h2 _ hc.1 hc.2) ⟨fun q3 => ?_, fun q3 => s_min ?_⟩⟩
        · rw [bI_0] at q2
          exact fun g => q2 g.1
        all_goals
          rw [bI_0, Classical.not_not] at q2
          rw [if_pos ⟨q2, q⟩] at e
          rw [ep]
        · rw [if_pos q3] at e
          exact ih _ (p + 1) (by omega) (by omega) e
        · rw [if_neg q3] at e
          exact ih _ (p + 1) (by omega) (by omega) e
      · rw [ed, er, hask] at q
        exact fun g => q g.2
  exact gX5_leastSlack (d + 1) A _ m Q (loop 64 (-1) 0 (by omega) rfl rfl)
theorem s_raise {d : Nat} {v A B : Int} {m : jM} {Q : Int → jM → Prop} (hA : m 70 1 = A) (hB : m 70 2 = B) (hv : in64 v) (h1 : ∀ j : Int, 0 ≤ j → j < 8 → in64 (m 78 j)) (h2 : ∀ j : Int, 0 ≤ j → j < 8 → in64 (m 79 j))
    (h : ∀ m' : jM, (∀ q, q ≠ 78 → q ≠ 79 → m' q = m q) → (∀ j : Int, 0 ≤ j → j < 8 → m' 78 j = if bt B j = true then w64 (m 78 j + v) else m 78 j) → (∀ j : Int, 0 ≤ j → j < 8 → m' 79 j = if bt A j = true then w64 (m 79 j + v) else m 79 j) → Q 0 m') : jK (d + 1) zX5_raise [jO 5 75, jO 2 70, jL v] m Q := by
  have loop : ∀ (r : Nat) (j : Int) (m1 : jM), 0 ≤ j → j + r = 8 → (∀ q, q ≠ 78 → q ≠ 79 → m1 q = m q) → (∀ x : Int, 0 ≤ x → x < 8 → m1 78 x = if x < j ∧ bt B x = true then w64 (m 78 x + v) else m 78 x) → (∀ x : Int, 0 ≤ x → x < 8 → m1 79 x = if x < j ∧ bt A x = true then w64 (m 79 x + v) else m 79 x) → aX5_raise_3 d v j m1 Q := by
    intro r
    induction r with
    | zero =>
      intro j m1 hj hr f0 f1 f2
      refine gX5_raise_3 d v j m1 Q ⟨fun q => by omega, fun _ => h m1 f0 (fun x x1 x2 => ?_) (fun x x1 x2 => ?_)⟩
      · rw [f1 x x1 x2]
        by_cases g : bt B x = true
        · rw [if_pos g, if_pos ⟨by omega, g⟩]
        · rw [if_neg g, if_neg (fun k => g k.2)]
      · rw [f2 x x1 x2]
        by_cases g : bt A x = true
        · rw [if_pos g, if_pos ⟨by omega, g⟩]
        · rw [if_neg g, if_neg (fun k => g k.2)]
    | succ r ih =>
      intro j m1 hj hr f0 f1 f2
      have ej : w32 (j + 1) = j + 1 := w32_id (by omega) (by omega)
      have hj8 : 0 ≤ j ∧ j < 8 := by omega
      have k70 := f0 70 (by omega) (by omega)
      have add : ∀ (M t : Int), in64 t → w64 (t + w64 (iAnd (iShr M j) 1 * v)) = if bt M j = true then w64 (t + v) else t := by
        intro M t ht
        unfold in64 at ht hv
        rw [bt_get (by omega)]
        split
        · rename_i g
          rw [Int.one_mul, w64_id (z := v) (by omega) (by omega)]
        · rename_i g
          rw [Int.zero_mul, w64_id (z := 0) (by omega) (by omega), Int.add_zero, w64_id (by omega) (by omega)]
      refine gX5_raise_3 d v j m1 Q ⟨fun _ => ⟨hj8, hj8, hj8, hj8, ?_⟩, fun q => by omega⟩
      rw [up_ne (show ¬ (70 : Int) = 78 by omega), up_ne (show ¬ (79 : Int) = 78 by omega), k70, hA, hB, ej]
      have t1 := f1 j hj8.1 hj8.2
      rw [if_neg (fun k => by omega)] at t1
      have t2 := f2 j hj8.1 hj8.2
      rw [if_neg (fun k => by omega)] at t2
      rw [add B _ (by rw [t1]; exact h1 j hj8.1 hj8.2), add A _ (by rw [t2]; exact h2 j hj8.1 hj8.2), t1, t2]
      refine ih (j + 1) _ (by omega) (by omega) (fun q g1 g2 => by rw [up_ne g2, up_ne g1]; exact f0 q g1 g2) (fun x x1 x2 => ?_) (fun x x1 x2 => ?_)
      · rw [up_ne (show ¬ (78 : Int) = 79 by omega), up_eq]
        by_cases hx : x = j
        · rw [if_pos hx, hx]
          by_cases g : bt B j = true
          · rw [if_pos g, if_pos ⟨by omega, g⟩]
          · rw [if_neg g, if_neg (fun k => g k.2)]
        · rw [if_neg hx, f1 x x1 x2]
          by_cases g : x < j ∧ bt B x = true
          · rw [if_pos g, if_pos ⟨by omega, g.2⟩]
          · rw [if_neg g, if_neg (fun k => g ⟨by omega, k.2⟩)]
      · rw [up_eq]
        by_cases hx : x = j
        · rw [if_pos hx, hx]
          by_cases g : bt A j = true
          · rw [if_pos g, if_pos ⟨by omega, g⟩]
          · rw [if_neg g, if_neg (fun k => g k.2)]
        · rw [if_neg hx, up_ne (by omega), f2 x x1 x2]
          by_cases g : x < j ∧ bt A x = true
          · rw [if_pos g, if_pos ⟨by omega, g.2⟩]
          · rw [if_neg g, if_neg (fun k => g ⟨by omega, k.2⟩)]
  exact gX5_raise d v m Q (loop 8 0 m (by omega) (by omega) (fun _ _ _ => rfl) (fun x _ _ => by rw [if_neg (fun k => by omega)]) (fun x _ _ => by rw [if_neg (fun k => by omega)]))

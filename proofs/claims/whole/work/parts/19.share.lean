/-! how many best ones a pair is in: the class's share -/
def sv (f : Int → Int) : Nat → Int → Int
  | 0, _ => 0
  | r + 1, j => f j + sv f r (j + 1)
theorem sv_s (f : Int → Int) (r : Nat) (j : Int) : sv f (r + 1) j = f j + sv f r (j + 1) := rfl
theorem sv_congr {f g : Int → Int} (r : Nat) : ∀ j : Int, (∀ x : Int, j ≤ x → x < j + r → f x = g x) → sv f r j = sv g r j := by
  induction r with
  | zero => intro j _; rfl
  | succ r ih =>
    intro j h
    rw [sv_s, sv_s, h j (by omega) (by omega), ih (j + 1) (fun x h1 h2 => h x (by omega) (by omega))]
theorem sv_up {f g : Int → Int} {t : Int} (hne : ∀ x : Int, x ≠ t → g x = f x) (r : Nat) : ∀ j : Int, j ≤ t → t < j + r → sv g r j = sv f r j + (g t - f t) := by
  induction r with
  | zero => intro j h1 h2; omega
  | succ r ih =>
    intro j h1 h2
    rw [sv_s, sv_s]
    by_cases h : j = t
    · subst h
      rw [sv_congr (f := g) (g := f) r (j + 1) (fun x h3 h4 => hne x (by omega))]
      omega
    · rw [ih (j + 1) (by omega) (by omega), hne j h]
      omega
theorem sv_0 (r : Nat) : ∀ j : Int, sv (fun _ => 0) r j = 0 := by
  induction r with
  | zero => intro j; rfl
  | succ r ih => intro j; rw [sv_s, ih]; rfl
theorem sv_one {f : Int → Int} {t : Int} (r : Nat) (j : Int) (h1 : j ≤ t) (h2 : t < j + r) (h : ∀ x : Int, x ≠ t → f x = 0) : sv f r j = f t := by
  rw [sv_up (f := fun _ => 0) (g := f) (t := t) h r j h1 h2, sv_0]
  omega
theorem fmr_len {α : Type} (f : Int → List α) (r : Nat) : ∀ j : Int, ((fmr f r j).length : Int) = sv (fun x => ((f x).length : Int)) r j := by
  induction r with
  | zero => intro j; rfl
  | succ r ih =>
    intro j
    rw [sv_s, ← ih (j + 1)]
    show ((f j ++ fmr f r (j + 1)).length : Int) = _
    rw [List.length_append]
    omega
theorem fmr_filter {α : Type} (P : α → Bool) (f : Int → List α) (r : Nat) : ∀ j : Int, (fmr f r j).filter P = fmr (fun x => (f x).filter P) r j := by
  induction r with
  | zero => intro j; rfl
  | succ r ih =>
    intro j
    show (f j ++ fmr f r (j + 1)).filter P = (f j).filter P ++ fmr _ r (j + 1)
    rw [List.filter_append, ih]
/-- how many best ones from here have judge j0 for case c0 (none, if it is gone by) -/
def cw (o : Int → Int → Bool) (b : Int → Int → Int) (C : Int → Bool) (k : Nat) (s j0 c0 : Int) : Int := if 8 - (k : Int) ≤ c0 then (((bst o b C k s).filter (fun l => decide (l.getD (c0 - (8 - k)).toNat (-1) = j0))).length : Int) else 0
theorem cw_in {o : Int → Int → Bool} {b : Int → Int → Int} {C : Int → Bool} (hB : dpB o b) {k : Nat} (hk : k ≤ 7) {s j0 c0 : Int} (hs : mk8 s) (hC : C (7 - k) = true) (hj : 0 ≤ j0 ∧ j0 < 8) :
    cw o b C (k + 1) s j0 c0 = sv (fun j => if ldg o b C k s j = true then (if c0 = 7 - (k : Int) then (if j = j0 then (dpt 0 o b C k (iOr s (iShl 1 j))).2 else 0) else cw o b C k (iOr s (iShl 1 j)) j0 c0) else 0) 8 0 := by
  unfold cw
  by_cases hc : 8 - ((k + 1 : Nat) : Int) ≤ c0
  · rw [if_pos hc, bst_in hB hk hs hC, fmr_8, fmr_filter, fmr_len]
    refine sv_congr _ _ (fun j h1 h2 => ?_)
    by_cases hl : ldg o b C k s j = true
    · rw [if_pos hl, if_pos hl, List.filter_map, List.length_map]
      by_cases h7 : c0 = 7 - (k : Int)
      · rw [if_pos h7, bst_len hB (by omega) (mk_or1 hs ⟨h1, by omega⟩)]
        have e : (c0 - (8 - ((k + 1 : Nat) : Int))).toNat = 0 := by omega
        by_cases hjj : j = j0
        · rw [if_pos hjj, List.filter_eq_self.mpr]
          intro l _
          show decide ((j :: l).getD (c0 - (8 - ((k + 1 : Nat) : Int))).toNat (-1) = j0) = true
          rw [e, hjj]
          simp
        · rw [if_neg hjj, flt_nil]
          · rfl
          · intro l _
            show decide ((j :: l).getD (c0 - (8 - ((k + 1 : Nat) : Int))).toNat (-1) = j0) = false
            rw [e]
            simpa using hjj
      · rw [if_neg h7, if_pos (by omega)]
        congr 2
        apply List.filter_congr
        intro l _
        show decide ((j :: l).getD (c0 - (8 - ((k + 1 : Nat) : Int))).toNat (-1) = j0) = _
        rw [show (c0 - (8 - ((k + 1 : Nat) : Int))).toNat = (c0 - (8 - (k : Int))).toNat + 1 by omega]
        rfl
    · rw [if_neg hl, if_neg hl]; rfl
  · rw [if_neg hc, sv_congr (g := fun _ => 0) 8 0, sv_0]
    intro j h1 h2
    by_cases hl : ldg o b C k s j = true
    · rw [if_pos hl, if_neg (by omega), if_neg (by omega)]
    · rw [if_neg hl]
theorem cw_skip {o : Int → Int → Bool} {b : Int → Int → Int} {C : Int → Bool} {s j0 c0 : Int} (hj : 0 ≤ j0) (k e : Nat) (hC : ∀ c : Int, 8 - ((k : Int) + e) ≤ c → c < 8 - k → C c = false) : cw o b C (k + e) s j0 c0 = cw o b C k s j0 c0 := by
  induction e with
  | zero => rfl
  | succ e ih =>
    rw [← ih (fun c g1 g2 => hC c (by omega) g2)]
    rw [show k + (e + 1) = (k + e) + 1 by omega]
    unfold cw
    rw [bst_out (by rw [hC _ (by omega) (by omega)]; simp), List.filter_map, List.length_map]
    by_cases h1 : 8 - (((k + e : Nat) : Int)) ≤ c0
    · rw [if_pos h1, if_pos (by omega)]
      congr 2
      apply List.filter_congr
      intro l _
      show decide (((-1) :: l).getD (c0 - (8 - ((k + e + 1 : Nat) : Int))).toNat (-1) = j0) = _
      rw [show (c0 - (8 - ((k + e + 1 : Nat) : Int))).toNat = (c0 - (8 - ((k + e : Nat) : Int))).toNat + 1 by omega]
      rfl
    · rw [if_neg h1]
      by_cases h2 : 8 - (((k + e + 1 : Nat) : Int)) ≤ c0
      · rw [if_pos h2, flt_nil]
        · rfl
        · intro l _
          show decide (((-1) :: l).getD (c0 - (8 - ((k + e + 1 : Nat) : Int))).toNat (-1) = j0) = false
          rw [show (c0 - (8 - ((k + e + 1 : Nat) : Int))).toNat = 0 by omega]
          simp
          omega
      · rw [if_neg h2]
theorem cw_r {o : Int → Int → Bool} {b : Int → Int → Int} {C : Int → Bool} (hB : dpB o b) {s j0 c0 : Int} {k : Nat} (hk : k ≤ 8) (hs : mk8 s) : 0 ≤ cw o b C k s j0 c0 ∧ cw o b C k s j0 c0 ≤ (dpt 0 o b C k s).2 := by
  rw [bst_len hB hk hs]
  unfold cw
  split
  · have := List.length_filter_le (fun l : List Int => decide (l.getD (c0 - (8 - (k : Int))).toNat (-1) = j0)) (bst o b C k s)
    omega
  · omega
/-- alike modulo 2 ^ 32 -/
def eqm (a b : Int) : Prop := (a - b) % 4294967296 = 0
theorem w32_q (a : Int) : ∃ q : Int, w32 a = a - 4294967296 * q := by
  refine ⟨(a + 2147483648) / 4294967296, ?_⟩
  unfold w32
  omega
theorem s_shareFrom {d : Nat} {p u c : Int} {m m1 : jM} {W : Int → Int → Int → Int} {G : Int → Int → Int} {Q : Int → jM → Prop} (hW : pW 0 p m) (hr : ∀ c : Int, 0 ≤ c → c < 8 → mk8 (m (p + 3) c)) (hB : dpB (pO (m (p + 3))) (rB (m (p + 2)))) (hu : mk8 u) (hsub : sub8 u (m p 3)) (ht : pc8 u < m p 1) (hc : m (p + 1) (pc8 u) = c)
    (hWd : ∀ v j0 c0, W v j0 c0 = cw (pO (m (p + 3))) (rB (m (p + 2))) (bt (m p 0)) (pLv p m (pc8 v)) v j0 c0)
    (hf : ∀ q, q ≠ p + 6 → q ≠ p + 7 → m1 q = m q) (hz : ∀ v, mk8 v → ¬ sub8 v (m p 3) → m1 (p + 6) v = 0) (hrg : ∀ x, 0 ≤ x → x < 64 → -2147483648 ≤ m1 (p + 7) x ∧ m1 (p + 7) x ≤ 2147483647)
    (hG : ∀ j0 c0 : Int, 0 ≤ j0 → j0 < 8 → 0 ≤ c0 → c0 < 8 → eqm (m1 (p + 7) (8 * j0 + c0) + sv (fun v => m1 (p + 6) v * W v j0 c0) (256 - u).toNat u) (G j0 c0))
    (h : ∀ m2 : jM, (∀ q, q ≠ p + 6 → q ≠ p + 7 → m2 q = m q) → (∀ v, mk8 v → ¬ sub8 v (m p 3) → m2 (p + 6) v = 0) → (∀ x, 0 ≤ x → x < 64 → -2147483648 ≤ m2 (p + 7) x ∧ m2 (p + 7) x ≤ 2147483647) → (∀ j0 c0 : Int, 0 ≤ j0 → j0 < 8 → 0 ≤ c0 → c0 < 8 → eqm (m2 (p + 7) (8 * j0 + c0) + sv (fun v => m2 (p + 6) v * W v j0 c0) (255 - u).toNat (u + 1)) (G j0 c0)) → Q 0 m2) :
    jK (d + 2) zX4_shareFrom [jO 4 p, jI u, jI c] m1 Q := by
  have hpr := pc8_r u
  have hu2 : 0 ≤ u ∧ u < 256 := hu
  obtain ⟨b1, b2, b3, b4⟩ := hW.1.2.2.1 (pc8 u) hpr.1 ht
  rw [hc] at b1 b2 b3 b4
  have e7 : 7 - (((7 - c).toNat : Nat) : Int) = c := by omega
  have eLv : pLv p m (pc8 u) = (7 - c).toNat + 1 := by unfold pLv; rw [if_pos ht, hc]; omega
  -- what judge j adds, for each reached
  have hK : ∀ j0 c0 : Int, 0 ≤ j0 → j0 < 8 → 0 ≤ c0 → c0 < 8 → W u j0 c0 = sv (fun j => if ldg (pO (m (p + 3))) (rB (m (p + 2))) (bt (m p 0)) (7 - c).toNat u j = true then (if c0 = c then (if j = j0 then (dpt 0 (pO (m (p + 3))) (rB (m (p + 2))) (bt (m p 0)) (7 - c).toNat (iOr u (iShl 1 j))).2 else 0) else W (iOr u (iShl 1 j)) j0 c0) else 0) 8 0 := by
    intro j0 c0 g1 g2 g3 g4
    rw [hWd, eLv, cw_in hB (by omega) hu (by rw [e7]; exact b3) ⟨g1, g2⟩]
    refine sv_congr _ _ (fun j h1 h2 => ?_)
    rw [e7]
    by_cases hl : ldg (pO (m (p + 3))) (rB (m (p + 2))) (bt (m p 0)) (7 - c).toNat u j = true
    · rw [if_pos hl, if_pos hl]
      by_cases hcc : c0 = c
      · rw [if_pos hcc, if_pos hcc]
      · rw [if_neg hcc, if_neg hcc, hWd]
        have hl2 := hl
        unfold ldg at hl2
        simp only [Bool.and_eq_true, Bool.not_eq_true'] at hl2
        obtain ⟨e, e1, e2⟩ := pLv_sk hW.1 hpr.1 ht
        rw [hc] at e1
        rw [pc8_1 ⟨h1, by omega⟩ hl2.1.1.1, e1]
        exact cw_skip g1 _ _ e2
    · rw [if_neg hl, if_neg hl]
  generalize hD : (fun (j0 c0 j : Int) => if ldg (pO (m (p + 3))) (rB (m (p + 2))) (bt (m p 0)) (7 - c).toNat u j = true then (if c0 = c then (if j = j0 then (dpt 0 (pO (m (p + 3))) (rB (m (p + 2))) (bt (m p 0)) (7 - c).toNat (iOr u (iShl 1 j))).2 else 0) else W (iOr u (iShl 1 j)) j0 c0) else 0) = D at *
  have hDd : ∀ j0 c0 j, D j0 c0 j = if ldg (pO (m (p + 3))) (rB (m (p + 2))) (bt (m p 0)) (7 - c).toNat u j = true then (if c0 = c then (if j = j0 then (dpt 0 (pO (m (p + 3))) (rB (m (p + 2))) (bt (m p 0)) (7 - c).toNat (iOr u (iShl 1 j))).2 else 0) else W (iOr u (iShl 1 j)) j0 c0) else 0 := by
    intro j0 c0 j; rw [← hD]
  have hK2 : ∀ j0 c0 : Int, 0 ≤ j0 → j0 < 8 → 0 ≤ c0 → c0 < 8 → W u j0 c0 = sv (D j0 c0) 8 0 := by
    intro j0 c0 g1 g2 g3 g4
    rw [hK j0 c0 g1 g2 g3 g4]
    exact sv_congr _ _ (fun j _ _ => (hDd j0 c0 j).symm)
  have loop : ∀ (r : Nat) (j : Int) (m2 : jM), 0 ≤ j → j + r = 8 → (∀ q, q ≠ p + 6 → q ≠ p + 7 → m2 q = m q) → (∀ v, mk8 v → ¬ sub8 v (m p 3) → m2 (p + 6) v = 0) → (∀ x, 0 ≤ x → x < 64 → -2147483648 ≤ m2 (p + 7) x ∧ m2 (p + 7) x ≤ 2147483647) →
      (∀ j0 c0 : Int, 0 ≤ j0 → j0 < 8 → 0 ≤ c0 → c0 < 8 → eqm (m2 (p + 7) (8 * j0 + c0) + sv (fun v => m2 (p + 6) v * W v j0 c0) (255 - u).toNat (u + 1) + m2 (p + 6) u * sv (D j0 c0) r j) (G j0 c0)) → aX4_shareFrom_2 (d + 1) p u c j m2 Q := by
    intro r
    induction r with
    | zero =>
      intro j m2 hj0 hjr f1 f2 f3 f4
      refine gX4_shareFrom_2 (d + 1) p u c j m2 Q ⟨fun q => by omega, fun _ => h m2 f1 f2 f3 (fun j0 c0 g1 g2 g3 g4 => ?_)⟩
      have := f4 j0 c0 g1 g2 g3 g4
      rw [show sv (D j0 c0) 0 j = 0 from rfl, Int.mul_zero, Int.add_zero] at this
      exact this
    | succ r ih =>
      intro j m2 hj0 hjr f1 f2 f3 f4
      have ej : w32 (j + 1) = j + 1 := w32_id (by omega) (by omega)
      have e1 : w32 (w32 (j * 8) + c) = 8 * j + c := by simp (disch := omega) only [w32_id]; omega
      have hor := mk_or1 hu (k := j) ⟨by omega, by omega⟩
      have hor2 : 0 ≤ iOr u (iShl 1 j) ∧ iOr u (iShl 1 j) < 256 := hor
      have kp : m2 p = m p := f1 p (by omega) (by omega)
      have k1 := f1 (p + 1) (by omega) (by omega)
      have k2 := f1 (p + 2) (by omega) (by omega)
      have k3 := f1 (p + 3) (by omega) (by omega)
      have k4 := f1 (p + 4) (by omega) (by omega)
      have k5 := f1 (p + 5) (by omega) (by omega)
      have kW : pW 0 p m2 := by
        unfold pW plL pEn pLv at hW ⊢
        rw [kp, k1, k2, k3, k4, k5]
        exact hW
      refine gX4_shareFrom_2 (d + 1) p u c j m2 Q ⟨fun _ => s_leads kW (by rw [k3]; exact hr) (by rw [k3, k2]; exact hB) hu (by rw [kp]; exact hsub) (by rw [kp]; exact ht) (by rw [k1]; exact hc) ⟨by omega, by omega⟩ ⟨fun q => ?_, fun q => ⟨hor, hu, hor, by omega, hu, hor, by omega, ?_⟩⟩, fun q => by omega⟩
      · rw [bI_0, k3, k2, kp] at q
        rw [ej]
        refine ih (j + 1) m2 (by omega) (by omega) f1 f2 f3 (fun j0 c0 g1 g2 g3 g4 => ?_)
        have := f4 j0 c0 g1 g2 g3 g4
        rw [sv_s, hDd, if_neg q, Int.zero_add] at this
        exact this
      · rw [bI_0, k3, k2, kp, Classical.not_not] at q
        have hld := q
        unfold ldg at hld
        rw [e7] at hld
        simp only [Bool.and_eq_true, Bool.not_eq_true', decide_eq_true_eq, pO] at hld
        have hopen := plL_open hW.1 hpr.1 ht (show 0 ≤ j ∧ j < 8 by omega) (by rw [hc]; exact hld.1.1.2)
        have hsub2 := sub_or1 ⟨by omega, by omega⟩ hsub hopen
        have hlt := mk_lt hu ⟨by omega, by omega⟩ hld.1.1.1
        have hEt := hW.2 _ hor hsub2
        unfold pEn at hEt
        rw [pc8_1 ⟨by omega, by omega⟩ hld.1.1.1, ← pLv_next hW.1 hpr.1 ht, hc] at hEt
        rw [ej, e1]
        generalize hth : iOr u (iShl 1 j) = th at *
        have hA : ∀ v : Int, ¬ v = th → jUp m2 (p + 6) th (w32 (m2 (p + 6) th + m2 (p + 6) u)) (p + 6) v = m2 (p + 6) v := fun v hv => up_oth hv
        have hu6 := hA u (by omega)
        have h65 : jUp m2 (p + 6) th (w32 (m2 (p + 6) th + m2 (p + 6) u)) (p + 5) = m (p + 5) := by rw [up_ne (by omega), k5]
        have h67 : jUp m2 (p + 6) th (w32 (m2 (p + 6) th + m2 (p + 6) u)) (p + 7) = m2 (p + 7) := up_ne (by omega)
        have h66 : jUp m2 (p + 6) th (w32 (m2 (p + 6) th + m2 (p + 6) u)) (p + 6) th = w32 (m2 (p + 6) th + m2 (p + 6) u) := up_same
        have f1' : ∀ q, q ≠ p + 6 → q ≠ p + 7 → jUp m2 (p + 6) th (w32 (m2 (p + 6) th + m2 (p + 6) u)) q = m q := fun q h1 h2 => by rw [up_ne h1]; exact f1 q h1 h2
        generalize jUp m2 (p + 6) th (w32 (m2 (p + 6) th + m2 (p + 6) u)) = m3 at *
        rw [h65, hEt.2, h67, hu6]
        refine ih (j + 1) _ (by omega) (by omega) (fun q g1 g2 => ?_) (fun v g1 g2 => ?_) (fun x x1 x2 => ?_) (fun j0 c0 g1 g2 g3 g4 => ?_)
        · rw [up_ne g2]; exact f1' q g1 g2
        · rw [up_ne (by omega)]
          rw [hA v (by rintro rfl; exact g2 hsub2)]
          exact f2 v g1 g2
        · rw [up_eq]
          split
          · unfold w32; omega
          · rw [h67]; exact f3 x x1 x2
        · have old := f4 j0 c0 g1 g2 g3 g4
          rw [sv_s, hDd, if_pos q, hth] at old
          rw [up_ne (show ¬ p + 6 = p + 7 by omega), up_eq, hu6, h67]
          have hsv := sv_up (f := fun v => m2 (p + 6) v * W v j0 c0) (g := fun v => m3 (p + 6) v * W v j0 c0) (t := th) (fun x hx => by rw [hA x hx]) (255 - u).toNat (u + 1) (by omega) (by omega)
          rw [hsv]
          rw [h66]
          obtain ⟨x1, hx1⟩ := w32_q (m2 (p + 6) th + m2 (p + 6) u)
          obtain ⟨x2, hx2⟩ := w32_q (m2 (p + 6) u * (dpt 0 (pO (m (p + 3))) (rB (m (p + 2))) (bt (m p 0)) (7 - c).toNat th).2)
          obtain ⟨x3, hx3⟩ := w32_q (m2 (p + 7) (8 * j + c) + w32 (m2 (p + 6) u * (dpt 0 (pO (m (p + 3))) (rB (m (p + 2))) (bt (m p 0)) (7 - c).toNat th).2))
          rw [hx1, hx3, hx2]
          have hmul : (m2 (p + 6) th + m2 (p + 6) u - 4294967296 * x1) * W th j0 c0 = m2 (p + 6) th * W th j0 c0 + m2 (p + 6) u * W th j0 c0 - 4294967296 * (x1 * W th j0 c0) := by
            rw [Int.sub_mul, Int.add_mul, Int.mul_assoc]
          rw [hmul]
          rw [Int.mul_add] at old
          unfold eqm at old ⊢
          by_cases hcc : c0 = c
          · rw [if_pos hcc] at old
            -- the cases behind c are gone by: nothing is added there
            have hW0 : W th j0 c0 = 0 := by
              rw [hWd]
              unfold cw
              rw [← hth, pc8_1 ⟨by omega, by omega⟩ hld.1.1.1]
              obtain ⟨e, ee1, ee2⟩ := pLv_sk hW.1 hpr.1 ht
              rw [hc] at ee1
              rw [if_neg (by omega)]
            rw [hW0] at *
            by_cases hjj : j = j0
            · rw [if_pos hjj] at old
              subst hjj
              subst hcc
              rw [if_pos rfl]
              simp only [Int.mul_zero] at *
              omega
            · rw [if_neg hjj] at old
              rw [if_neg (by omega)]
              simp only [Int.mul_zero] at *
              omega
          · rw [if_neg hcc] at old
            rw [if_neg (by omega)]
            omega
  refine gX4_shareFrom (d + 1) p u c m1 Q (loop 8 0 m1 (by omega) rfl hf hz hrg (fun j0 c0 g1 g2 g3 g4 => ?_))
  have := hG j0 c0 g1 g2 g3 g4
  rw [show (256 - u).toNat = (255 - u).toNat + 1 by omega, sv_s, hK2 j0 c0 g1 g2 g3 g4] at this
  unfold eqm at this ⊢
  omega
theorem s_share {d : Nat} {p : Int} {m : jM} {Q : Int → jM → Prop} (hW : pW 0 p m) (hr : ∀ c : Int, 0 ≤ c → c < 8 → mk8 (m (p + 3) c)) (hB : dpB (pO (m (p + 3))) (rB (m (p + 2))))
    (h : ∀ m2 : jM, (∀ q, q ≠ p + 6 → q ≠ p + 7 → m2 q = m q) → (∀ j0 c0 : Int, 0 ≤ j0 → j0 < 8 → 0 ≤ c0 → c0 < 8 → m2 (p + 7) (8 * j0 + c0) = cw (pO (m (p + 3))) (rB (m (p + 2))) (bt (m p 0)) 8 0 j0 c0) → Q 0 m2) :
    jK (d + 3) zX4_share [jO 4 p] m Q := by
  have hS0 : sub8 0 (m p 3) := fun j _ _ g => by rw [bt_0] at g; cases g
  have hE0 := hW.2 0 mk_0 hS0
  unfold pEn at hE0
  rw [pc8_0, ← pLv_first hW.1] at hE0
  generalize hWd : (fun (v j0 c0 : Int) => cw (pO (m (p + 3))) (rB (m (p + 2))) (bt (m p 0)) (pLv p m (pc8 v)) v j0 c0) = W
  have hWd2 : ∀ v j0 c0, W v j0 c0 = cw (pO (m (p + 3))) (rB (m (p + 2))) (bt (m p 0)) (pLv p m (pc8 v)) v j0 c0 := by intro v j0 c0; rw [← hWd]
  have loop : ∀ (r : Nat) (u : Int) (m1 : jM), 0 ≤ u → u + r = 256 → (∀ q, q ≠ p + 6 → q ≠ p + 7 → m1 q = m q) → (∀ v, mk8 v → ¬ sub8 v (m p 3) → m1 (p + 6) v = 0) → (∀ x, 0 ≤ x → x < 64 → -2147483648 ≤ m1 (p + 7) x ∧ m1 (p + 7) x ≤ 2147483647) →
      (∀ j0 c0 : Int, 0 ≤ j0 → j0 < 8 → 0 ≤ c0 → c0 < 8 → eqm (m1 (p + 7) (8 * j0 + c0) + sv (fun v => m1 (p + 6) v * W v j0 c0) r u) (cw (pO (m (p + 3))) (rB (m (p + 2))) (bt (m p 0)) 8 0 j0 c0)) → aX4_share_38 (d + 2) p u m1 Q := by
    intro r
    induction r with
    | zero =>
      intro u m1 hu0 hur f1 f2 f3 f4
      refine gX4_share_38 (d + 2) p u m1 Q ⟨fun q => by omega, fun _ => h m1 f1 (fun j0 c0 g1 g2 g3 g4 => ?_)⟩
      have h1 := f4 j0 c0 g1 g2 g3 g4
      have h2 := f3 (8 * j0 + c0) (by omega) (by omega)
      have h3 := cw_r (C := bt (m p 0)) (j0 := j0) (c0 := c0) hB (Nat.le_refl 8) mk_0
      have h4 := dpt_pos (C := bt (m p 0)) hB (Nat.le_refl 8) mk_0
      rw [show sv (fun v => m1 (p + 6) v * W v j0 c0) 0 u = 0 from rfl] at h1
      unfold eqm at h1
      omega
    | succ r ih =>
      intro u m1 hu0 hur f1 f2 f3 f4
      have hu8 : mk8 u := by unfold mk8; omega
      have eu : w32 (u + 1) = u + 1 := w32_id (by omega) (by omega)
      have kp : m1 p = m p := f1 p (by omega) (by omega)
      have k1 := f1 (p + 1) (by omega) (by omega)
      have hpr := pc8_r u
      have skip : (∀ j0 c0 : Int, 0 ≤ j0 → j0 < 8 → 0 ≤ c0 → c0 < 8 → m1 (p + 6) u * W u j0 c0 = 0) → aX4_share_38 (d + 2) p (w32 (u + 1)) m1 Q := by
        intro hz
        rw [eu]
        refine ih (u + 1) m1 (by omega) (by omega) f1 f2 f3 (fun j0 c0 g1 g2 g3 g4 => ?_)
        have := f4 j0 c0 g1 g2 g3 g4
        rw [sv_s, hz j0 c0 g1 g2 g3 g4, Int.zero_add] at this
        exact this
      refine gX4_share_38 (d + 2) p u m1 Q ⟨fun _ => jK_deep (show d + 1 ≤ d + 2 by omega) (s_bc hu8 ⟨hu8, fun q => skip ?_, fun q => ⟨fun q2 => ?_, fun q2 => skip ?_⟩⟩), fun q => by omega⟩
      · intro j0 c0 _ _ _ _; rw [q, Int.zero_mul]
      · rw [kp] at q2
        have hm1 : m p 1 ≤ 8 := by rw [hW.1.1]; exact (pcn_nn _ _).2
        have hsub : sub8 u (m p 3) := by
          apply Classical.byContradiction
          intro g; exact q (f2 u hu8 g)
        rw [k1]
        refine ⟨by omega, s_shareFrom (W := W) (G := cw (pO (m (p + 3))) (rB (m (p + 2))) (bt (m p 0)) 8 0) hW hr hB hu8 hsub q2 rfl hWd2 f1 f2 f3 (fun j0 c0 g1 g2 g3 g4 => ?_) (fun m2 g1 g2 g3 g4 => ?_)⟩
        · rw [show (256 - u).toNat = r + 1 by omega]
          exact f4 j0 c0 g1 g2 g3 g4
        · rw [eu]
          refine ih (u + 1) m2 (by omega) (by omega) g1 g2 g3 ?_
          rw [show (255 - u).toNat = r by omega] at g4
          exact g4
      · intro j0 c0 g1 g2 g3 g4
        rw [hWd2]
        unfold cw pLv
        rw [kp] at q2
        rw [if_neg q2, if_neg (by omega), Int.mul_zero]
  refine gX4_share (d + 2) p m Q (jK_deep (show d + 1 ≤ d + 2 by omega) (s_fillI (by omega) (jK_deep (show d + 1 ≤ d + 2 by omega) (s_fillI (by omega) ⟨by omega, fun q => ⟨by omega, ?_⟩, fun q => ⟨by omega, ?_⟩⟩))))
  all_goals
    have hfr : ∀ q, q ≠ p + 6 → q ≠ p + 7 → jFil (jFil m (p + 7) 64 0) (p + 6) 256 0 q = m q := by
      intro q g1 g2; funext j; unfold jFil; rw [if_neg (by rintro ⟨g, _⟩; exact g1 g), if_neg (by rintro ⟨g, _⟩; exact g2 g)]
    have hf6 : ∀ v : Int, mk8 v → jFil (jFil m (p + 7) 64 0) (p + 6) 256 0 (p + 6) v = 0 := by
      intro v hv; unfold mk8 at hv; unfold jFil; rw [if_pos ⟨rfl, hv⟩]
    have hf7 : ∀ x : Int, 0 ≤ x → x < 64 → jFil (jFil m (p + 7) 64 0) (p + 6) 256 0 (p + 7) x = 0 := by
      intro x g1 g2; unfold jFil; rw [if_neg (by rintro ⟨g, _⟩; omega), if_pos ⟨rfl, g1, g2⟩]
    generalize jFil (jFil m (p + 7) 64 0) (p + 6) 256 0 = m0 at *
    rw [hfr (p + 5) (by omega) (by omega), hE0.2, bst_len hB (Nat.le_refl 8) mk_0] at q
    refine loop 256 0 _ (by omega) (by omega) (fun q' g1 g2 => by rw [up_ne g1]; exact hfr q' g1 g2) (fun v g1 g2 => ?_) (fun x g1 g2 => by rw [up_ne (by omega), hf7 x g1 g2]; omega) (fun j0 c0 g1 g2 g3 g4 => ?_)
    · rw [up_oth (by rintro rfl; exact g2 hS0)]
      exact hf6 v g1
    rw [up_ne (show ¬ p + 7 = p + 6 by omega), hf7 _ (by omega) (by omega)]
    have e0 : sv (fun v => m0 (p + 6) v * W v j0 c0) 256 0 = 0 := by
      rw [sv_congr (g := fun _ => 0) 256 0 (fun x h1 h2 => by rw [hf6 x ⟨h1, by omega⟩, Int.zero_mul]), sv_0]
    obtain ⟨e, ee1, ee2⟩ := pLv_sk0 hW.1
    have hcw : cw (pO (m (p + 3))) (rB (m (p + 2))) (bt (m p 0)) 8 0 j0 c0 = W 0 j0 c0 := by
      rw [hWd2, pc8_0]
      have := cw_skip (o := pO (m (p + 3))) (b := rB (m (p + 2))) (C := bt (m p 0)) (s := 0) (j0 := j0) (c0 := c0) g1 _ _ ee2
      rw [← ee1] at this
      exact this
  · rw [sv_up (f := fun v => m0 (p + 6) v * W v j0 c0) (t := 0) (fun x hx => by rw [up_oth hx]) 256 0 (by omega) (by omega), e0, up_same, hf6 0 mk_0]
    have hb0 : bst (pO (m (p + 3))) (rB (m (p + 2))) (bt (m p 0)) 8 0 = [] := List.eq_nil_of_length_eq_zero (by omega)
    have : cw (pO (m (p + 3))) (rB (m (p + 2))) (bt (m p 0)) 8 0 j0 c0 = 0 := by
      unfold cw; rw [hb0]; split <;> rfl
    rw [this]
    unfold eqm
    simp
  · rw [sv_up (f := fun v => m0 (p + 6) v * W v j0 c0) (t := 0) (fun x hx => by rw [up_oth hx]) 256 0 (by omega) (by omega), e0, up_same, hf6 0 mk_0, hcw]
    unfold eqm
    omega

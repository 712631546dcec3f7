/-! burdens, which pairs are open: the class's -/
theorem iAnd1 (x : Int) : iAnd x 1 = if bt x 0 = true then 1 else 0 := by
  have h31 : mk8 (iAnd x 1) := by
    refine mk_of (io_and _ _) (fun j j1 j2 => ?_)
    rw [bt_and, mk_big (show mk8 1 by unfold mk8; omega) ⟨j1, j2⟩, Bool.and_false]
  have b1 : ∀ j : Int, 0 ≤ j → j < 8 → bt 1 j = decide (j = 0) := by
    intro j j1 j2
    obtain ⟨n, rfl⟩ : ∃ n : Nat, j = n := ⟨j.toNat, by omega⟩
    have : ∀ n : Fin 8, bt 1 (n.val : Int) = decide ((n.val : Int) = 0) := by decide +kernel
    exact this ⟨n, by omega⟩
  split
  · rename_i g
    refine mk_ext h31 (by unfold mk8; omega) (fun j j1 j2 => ?_)
    rw [bt_and, b1 j j1 j2]
    by_cases hj : j = 0
    · rw [hj, g]; rfl
    · simp [hj]
  · rename_i g
    refine mk_ext h31 mk_0 (fun j j1 j2 => ?_)
    rw [bt_and, b1 j j1 j2, bt_0]
    by_cases hj : j = 0
    · rw [hj]; simp at g; rw [g]; rfl
    · simp [hj]
theorem iAnd11 (x y : Int) : iAnd (iAnd x y) 1 = 1 ↔ iAnd x 1 = 1 ∧ iAnd y 1 = 1 := by
  rw [iAnd1 (iAnd x y), iAnd1 x, iAnd1 y, bt_and]
  cases bt x 0 <;> cases bt y 0 <;> simp
theorem s_isIn {d : Nat} {p : Int} {m : jM} {Q : Int → jM → Prop} (hp : 0 ≤ p ∧ p < 64) (h : Q (bI (bt (m 1 0) (p / 8) = true ∧ bt (m 1 1) (p % 8) = true)) m) : jK (d + 1) zX0_isIn [jO 0 1, jI p] m Q := by
  have ed : iDiv p 8 = p / 8 := iDiv_nn hp.1 (by omega) (by omega)
  have er : iRem p 8 = p % 8 := iRem_nn hp.1
  refine gX0_isIn d p m Q ⟨by omega, by omega, fun q => ?_, fun q => ?_⟩ <;> rw [ed, er, iAnd11, bt_shr (by omega), bt_shr (by omega)] at q
  · rw [bI_t q] at h; exact h
  · rw [bI_f q] at h; exact h
/-- the class's rules are the text G -/
def cOk (G : Int → Int → Int → Int) (rk : Int → Int) (m : jM) : Prop := gRk G rk ∧ tbd (m 2) ∧ ∀ q : Int, 0 ≤ q → q < 4 → (1 ≤ m 5 q ∧ m 5 q < 48) ∧ cRl G m (m 5 q) q ∧ G q 0 0 ≤ 24
theorem cOk_fr {G : Int → Int → Int → Int} {rk : Int → Int} {m m' : jM} (h : cOk G rk m) (hf : ∀ q, q < 51 → m' q = m q) : cOk G rk m' := by
  obtain ⟨a, b, c⟩ := h
  refine ⟨a, by rw [hf 2 (by omega)]; exact b, fun q q1 q2 => ?_⟩
  obtain ⟨c1, c2, c3⟩ := c q q1 q2
  rw [hf 5 (by omega)]
  refine ⟨c1, ?_, c3⟩
  unfold cRl at c2 ⊢
  rw [hf _ (by omega), hf (m 5 q + 1) (by omega), hf (m 5 q + 2) (by omega), hf (m 5 q + 3) (by omega)]
  exact c2
def cV0 (G : Int → Int → Int → Int) (m : jM) (j c : Int) : vR := gVal G (m 2) j c 0
def cBu (G : Int → Int → Int → Int) (m : jM) : Int → Int → Int := burF (m 3) (cV0 G m)
theorem gVal_b {G : Int → Int → Int → Int} {t : Int → Int} {j c r : Int} (ht : tbd t) (hj : 0 ≤ j ∧ j < 8) (hc : 0 ≤ c ∧ c < 8) (hw : G r 0 0 = 0 ∨ wf G 100 r (G r 1 0)) : bnd (gVal G t j c r).1 := by
  unfold gVal
  split
  · show bnd 0; unfold bnd; omega
  · rename_i g
    rcases hw with w | w
    · exact absurd w g
    · exact ev_b ht hj hc 100 w
theorem cOk_w {G : Int → Int → Int → Int} {rk : Int → Int} {m : jM} (h : cOk G rk m) {q : Int} (hq : 0 ≤ q ∧ q < 4) : G q 0 0 = 0 ∨ wf G 100 q (G q 1 0) := by
  obtain ⟨_, _, c⟩ := h
  obtain ⟨_, c2, _⟩ := c q hq.1 hq.2
  rcases c2.2.2 with g | g
  · exact Or.inl g.1
  · exact Or.inr g.2.2
theorem s_burdenC {d : Nat} {G : Int → Int → Int → Int} {rk : Int → Int} {p : Int} {m : jM} {Q : Int → jM → Prop} (hk : cOk G rk m) (hp : 0 ≤ p ∧ p < 64)
    (h : ∀ m', cFr m m' → Q (if cBu G m (p / 8) (p % 8) = -1 then -4611686018427387904 else cBu G m (p / 8) (p % 8)) m') (hown : -1 ≤ m 3 p) : jK (d + 11) zX9_burdenOf [jO 9 51, jO 0 1, jI p] m Q := by
  have hrk := hk.1.1 0 (by omega) (by omega)
  have e0 : cBu G m (p / 8) (p % 8) = if m 3 p ≠ -1 then m 3 p else if (gVal G (m 2) (p / 8) (p % 8) 0).2.1 ≠ 0 then -1 else if (gVal G (m 2) (p / 8) (p % 8) 0).1 < 0 then 0 else (gVal G (m 2) (p / 8) (p % 8) 0).1 := by
    unfold cBu burF
    rw [show 8 * (p / 8) + p % 8 = p by omega]
    rfl
  have hb := gVal_b (j := p / 8) (c := p % 8) hk.2.1 (by omega) (by omega) (cOk_w hk (q := 0) (by omega))
  unfold bnd at hb
  refine gX9_burdenOf (d + 10) p m Q ⟨hp, fun q => ?_, fun q => ⟨hp, ?_⟩⟩
  · rw [if_neg (fun k => k q)] at e0
    refine jK_deep (show d + 2 * 3 + 3 ≤ d + 10 by omega) (s_read d hk.1 3 (r := 0) (dp := 0) (by omega) hp (by omega) (by omega) (by omega) hk.2.2 hk.2.1 (fun m' g g1 g2 g3 => ⟨fun k => by omega, fun _ => s_max ?_⟩) (fun m' g g1 g2 g3 g4 => ⟨fun _ => ?_, fun k => absurd rfl k⟩))
    · have h := h m' g1
      rw [if_neg (fun k => k g)] at e0
      by_cases hn : (gVal G (m 2) (p / 8) (p % 8) 0).1 < 0
      · rw [if_pos hn] at e0
        rw [e0, if_neg (by omega)] at h
        rw [show max (gVal G (m 2) (p / 8) (p % 8) 0).1 0 = 0 by omega]
        exact h
      · rw [if_neg hn] at e0
        rw [e0, if_neg (by omega)] at h
        rw [show max (gVal G (m 2) (p / 8) (p % 8) 0).1 0 = (gVal G (m 2) (p / 8) (p % 8) 0).1 by omega]
        exact h
    · have h := h m' g1
      rw [if_pos g] at e0
      rw [e0, if_pos rfl] at h
      exact h
  · have h := h m (fun _ _ _ _ => rfl)
    rw [if_pos q] at e0
    rw [e0, if_neg q] at h
    exact h
/-- one forced pair closes those beside it -/
theorem s_force {d : Nat} {p j0 c0 : Int} {m : jM} {Q : Int → jM → Prop} (hj : 0 ≤ j0 ∧ j0 < 8) (hc : 0 ≤ c0 ∧ c0 < 8) (hr : ∀ c : Int, 0 ≤ c → c < 8 → mk8 (m (p + 3) c))
    (h : ∀ m', (∀ q, q ≠ p + 3 → m' q = m q) → (∀ c : Int, 0 ≤ c → c < 8 → mk8 (m' (p + 3) c) ∧ ∀ j : Int, 0 ≤ j → j < 8 → (pO (m' (p + 3)) j c = true ↔ pO (m (p + 3)) j c = true ∧ (c = c0 → j = j0) ∧ (c ≠ c0 → j ≠ j0))) → Q 0 m') : jK (d + 1) zX4_force [jO 4 p, jI (iShl 1 j0), jI c0] m Q := by
  have loop : ∀ (r : Nat) (k : Int) (m1 : jM), 0 ≤ k → k + r = 8 → (∀ q, q ≠ p + 3 → m1 q = m q) → (∀ c : Int, 0 ≤ c → c < 8 → mk8 (m1 (p + 3) c) ∧ ∀ j : Int, 0 ≤ j → j < 8 → (pO (m1 (p + 3)) j c = true ↔ pO (m (p + 3)) j c = true ∧ (c < k → (c = c0 → j = j0) ∧ (c ≠ c0 → j ≠ j0)))) → aX4_force_2 d p (iShl 1 j0) c0 k m1 Q := by
    intro r
    induction r with
    | zero =>
      intro k m1 hk hr0 f0 f1
      refine gX4_force_2 d p _ c0 k m1 Q ⟨fun q => by omega, fun _ => h m1 f0 (fun c c1 c2 => ⟨(f1 c c1 c2).1, fun j j1 j2 => ?_⟩)⟩
      rw [(f1 c c1 c2).2 j j1 j2]
      exact ⟨fun g => ⟨g.1, g.2 (by omega)⟩, fun g => ⟨g.1, fun _ => g.2⟩⟩
    | succ r ih =>
      intro k m1 hk hr0 f0 f1
      have ek : w32 (k + 1) = k + 1 := w32_id (by omega) (by omega)
      have hk8 : 0 ≤ k ∧ k < 8 := by omega
      have go : ∀ v, mk8 v → (∀ j : Int, 0 ≤ j → j < 8 → (bt v j = true ↔ pO (m1 (p + 3)) j k = true ∧ (k = c0 → j = j0) ∧ (k ≠ c0 → j ≠ j0))) → aX4_force_2 d p (iShl 1 j0) c0 (k + 1) (jUp m1 (p + 3) k v) Q := by
        intro v hv hvb
        refine ih (k + 1) _ (by omega) (by omega) (fun q hq => by rw [up_ne hq]; exact f0 q hq) (fun c c1 c2 => ?_)
        unfold pO at hvb f1 ⊢
        rw [up_eq]
        by_cases hck : c = k
        · rw [if_pos hck]
          refine ⟨hv, fun j j1 j2 => ?_⟩
          rw [hvb j j1 j2, (f1 k hk8.1 hk8.2).2 j j1 j2, hck]
          exact ⟨fun g => ⟨g.1.1, fun _ => g.2⟩, fun g => ⟨⟨g.1, fun q => by omega⟩, g.2 (by omega)⟩⟩
        · rw [if_neg hck]
          refine ⟨(f1 c c1 c2).1, fun j j1 j2 => ?_⟩
          rw [(f1 c c1 c2).2 j j1 j2]
          exact ⟨fun g => ⟨g.1, fun q => g.2 (by omega)⟩, fun g => ⟨g.1, fun q => g.2 (by omega)⟩⟩
      refine gX4_force_2 d p _ c0 k m1 Q ⟨fun _ => ⟨hk8, fun q => ⟨hk8, ?_⟩, fun q => ⟨hk8, ?_⟩⟩, fun q => by omega⟩ <;> rw [ek]
      · refine go _ (mk_andl (f1 k hk8.1 hk8.2).1) (fun j j1 j2 => ?_)
        rw [bt_and, bt_one (by omega) (by omega), Bool.and_eq_true, decide_eq_true_eq]
        exact ⟨fun g => ⟨g.1, fun _ => g.2, fun k' => absurd q k'⟩, fun g => ⟨g.1, g.2.1 q⟩⟩
      · refine go _ (mk_andl (f1 k hk8.1 hk8.2).1) (fun j j1 j2 => ?_)
        rw [bt_and, bt_not (by omega), bt_one (by omega) (by omega), Bool.and_eq_true]
        simp only [Bool.not_eq_true', decide_eq_false_iff_not]
        exact ⟨fun g => ⟨g.1, fun k' => absurd k' q, fun _ => g.2⟩, fun g => ⟨g.1, g.2.2 q⟩⟩
  exact gX4_force d p _ c0 m Q (loop 8 0 m (by omega) (by omega) (fun _ _ => rfl) (fun c c1 c2 => ⟨hr c c1 c2, fun j j1 j2 => ⟨fun g => ⟨g, fun q => by omega⟩, fun g => g.1⟩⟩))
theorem noFo_iff {mk : Int → Int} {j c : Int} (hj : 0 ≤ j ∧ j < 8) (hc : 0 ≤ c ∧ c < 8) : noFo mk j c ↔ ∀ x : Int, 0 ≤ x → x < 64 → mk x = 2 → (c = x % 8 → j = x / 8) ∧ (c ≠ x % 8 → j ≠ x / 8) := by
  constructor
  · intro h x x1 x2 hx
    refine ⟨fun e => ?_, fun e e2 => ?_⟩
    · apply Decidable.byContradiction
      intro hne
      refine (h (x / 8) (by omega) (by omega)).2 (fun g => hne g.symm) ?_
      rw [show 8 * (x / 8) + c = x by omega]; exact hx
    · refine (h (x % 8) (by omega) (by omega)).1 (fun g => e g.symm) ?_
      rw [show 8 * j + x % 8 = x by omega]; exact hx
  · intro h k k1 k2
    refine ⟨fun hne hx => ?_, fun hne hx => ?_⟩
    · have := (h (8 * j + k) (by omega) (by omega) hx).2
      rw [show (8 * j + k) % 8 = k by omega, show (8 * j + k) / 8 = j by omega] at this
      exact this (fun e => hne e.symm) rfl
    · have := (h (8 * k + c) (by omega) (by omega) hx).1
      rw [show (8 * k + c) % 8 = c by omega, show (8 * k + c) / 8 = k by omega] at this
      exact hne (this rfl).symm
theorem s_openBy {d : Nat} {p y : Int} {m : jM} {Q : Int → jM → Prop} (hy : y ≠ p + 3)
    (h : ∀ m', (∀ q, q ≠ p + 3 → m' q = m q) → (∀ c : Int, 0 ≤ c → c < 8 → mk8 (m' (p + 3) c) ∧ ∀ j : Int, 0 ≤ j → j < 8 → (pO (m' (p + 3)) j c = true ↔ m (p + 2) (8 * j + c) ≠ -4611686018427387904 ∧ m y (8 * j + c) ≠ 1 ∧ noFo (m y) j c)) → Q 0 m') : jK (d + 2) zX4_openBy [jO 4 p, jY 0 64 y] m Q := by
  have L62 : ∀ (r : Nat) (x : Int) (m1 : jM), 0 ≤ x → x + r = 64 → (∀ q, q ≠ p + 3 → m1 q = m q) → (∀ c : Int, 0 ≤ c → c < 8 → mk8 (m1 (p + 3) c) ∧ ∀ j : Int, 0 ≤ j → j < 8 → (pO (m1 (p + 3)) j c = true ↔ m (p + 2) (8 * j + c) ≠ -4611686018427387904 ∧ m y (8 * j + c) ≠ 1 ∧ ∀ z : Int, 0 ≤ z → z < x → m y z = 2 → (c = z % 8 → j = z / 8) ∧ (c ≠ z % 8 → j ≠ z / 8))) → aX4_openBy_62 (d + 1) p 64 y x m1 Q := by
    intro r
    induction r with
    | zero =>
      intro x m1 hx hr f0 f1
      refine gX4_openBy_62 (d + 1) p 64 y x m1 Q ⟨fun q => by omega, fun _ => h m1 f0 (fun c c1 c2 => ⟨(f1 c c1 c2).1, fun j j1 j2 => ?_⟩)⟩
      rw [(f1 c c1 c2).2 j j1 j2, noFo_iff ⟨j1, j2⟩ ⟨c1, c2⟩, show x = 64 by omega]
    | succ r ih =>
      intro x m1 hx hr f0 f1
      have ex : w32 (x + 1) = x + 1 := w32_id (by omega) (by omega)
      have ed : iDiv x 8 = x / 8 := iDiv_nn hx (by omega) (by omega)
      have er : iRem x 8 = x % 8 := iRem_nn hx
      have ky := f0 y hy
      refine gX4_openBy_62 (d + 1) p 64 y x m1 Q ⟨fun _ => ⟨by omega, fun q => ⟨by omega, by omega, ?_⟩, fun q => ?_⟩, fun q => by omega⟩ <;> rw [ky] at q
      · rw [ed, er]
        refine s_force (by omega) (by omega) (fun c c1 c2 => (f1 c c1 c2).1) (fun m2 g0 g1 => ?_)
        rw [ex]
        refine ih (x + 1) m2 (by omega) (by omega) (fun q hq => by rw [g0 q hq]; exact f0 q hq) (fun c c1 c2 => ⟨(g1 c c1 c2).1, fun j j1 j2 => ?_⟩)
        rw [(g1 c c1 c2).2 j j1 j2, (f1 c c1 c2).2 j j1 j2]
        constructor
        · rintro ⟨⟨a1, a2, a3⟩, a4, a5⟩
          refine ⟨a1, a2, fun z z1 z2 hz => ?_⟩
          by_cases hzx : z = x
          · rw [hzx]; exact ⟨a4, a5⟩
          · exact a3 z z1 (by omega) hz
        · rintro ⟨a1, a2, a3⟩
          have := a3 x hx (by omega) q
          exact ⟨⟨a1, a2, fun z z1 z2 hz => a3 z z1 (by omega) hz⟩, this.1, this.2⟩
      · rw [ex]
        refine ih (x + 1) m1 (by omega) (by omega) f0 (fun c c1 c2 => ⟨(f1 c c1 c2).1, fun j j1 j2 => ?_⟩)
        rw [(f1 c c1 c2).2 j j1 j2]
        constructor
        · rintro ⟨a1, a2, a3⟩
          refine ⟨a1, a2, fun z z1 z2 hz => ?_⟩
          by_cases hzx : z = x
          · rw [hzx] at hz; exact absurd hz q
          · exact a3 z z1 (by omega) hz
        · rintro ⟨a1, a2, a3⟩
          exact ⟨a1, a2, fun z z1 z2 hz => a3 z z1 (by omega) hz⟩
  have L10 : ∀ (r : Nat) (x : Int) (m1 : jM), 0 ≤ x → x + r = 64 → (∀ q, q ≠ p + 3 → m1 q = m q) → (∀ c : Int, 0 ≤ c → c < 8 → mk8 (m1 (p + 3) c) ∧ ∀ j : Int, 0 ≤ j → j < 8 → (pO (m1 (p + 3)) j c = true ↔ 8 * j + c < x ∧ m (p + 2) (8 * j + c) ≠ -4611686018427387904 ∧ m y (8 * j + c) ≠ 1)) → aX4_openBy_10 (d + 1) p 64 y x m1 Q := by
    intro r
    induction r with
    | zero =>
      intro x m1 hx hr f0 f1
      refine gX4_openBy_10 (d + 1) p 64 y x m1 Q ⟨fun q => by omega, fun _ => ?_⟩
      refine L62 64 0 m1 (by omega) (by omega) f0 (fun c c1 c2 => ⟨(f1 c c1 c2).1, fun j j1 j2 => ?_⟩)
      rw [(f1 c c1 c2).2 j j1 j2]
      exact ⟨fun g => ⟨g.2.1, g.2.2, fun z z1 z2 => by omega⟩, fun g => ⟨by omega, g.1, g.2.1⟩⟩
    | succ r ih =>
      intro x m1 hx hr f0 f1
      have ex : w32 (x + 1) = x + 1 := w32_id (by omega) (by omega)
      have ed : iDiv x 8 = x / 8 := iDiv_nn hx (by omega) (by omega)
      have er : iRem x 8 = x % 8 := iRem_nn hx
      have ky := f0 y hy
      have k2 := f0 (p + 2) (by omega)
      have hj : 0 ≤ x / 8 ∧ x / 8 < 8 := by omega
      have hc : 0 ≤ x % 8 ∧ x % 8 < 8 := by omega
      have skip : ¬ (m (p + 2) x ≠ -4611686018427387904 ∧ m y x ≠ 1) → aX4_openBy_10 (d + 1) p 64 y (w32 (x + 1)) m1 Q := by
        intro hn
        rw [ex]
        refine ih (x + 1) m1 (by omega) (by omega) f0 (fun c c1 c2 => ⟨(f1 c c1 c2).1, fun j j1 j2 => ?_⟩)
        rw [(f1 c c1 c2).2 j j1 j2]
        constructor
        · intro g; exact ⟨by omega, g.2⟩
        · intro g
          have : 8 * j + c ≠ x := by rintro e; rw [e] at g; exact hn g.2
          exact ⟨by omega, g.2⟩
      refine gX4_openBy_10 (d + 1) p 64 y x m1 Q ⟨fun _ => ⟨by omega, fun q => skip ?_, fun q => ⟨by omega, fun q2 => skip ?_, fun q2 => ⟨by omega, by rw [er]; exact hc, by omega, by rw [er]; exact hc, ?_⟩⟩⟩, fun q => by omega⟩
      · rw [k2] at q; exact fun g => g.1 q
      · rw [ky] at q2; exact fun g => g.2 q2
      · rw [k2] at q
        rw [ky] at q2
        rw [ed, er, ex]
        refine ih (x + 1) _ (by omega) (by omega) (fun z hz => by rw [up_ne hz]; exact f0 z hz) (fun c c1 c2 => ?_)
        unfold pO at f1 ⊢
        rw [up_eq]
        by_cases hcc : c = x % 8
        · rw [if_pos hcc]
          refine ⟨mk_or1 (f1 _ hc.1 hc.2).1 hj, fun j j1 j2 => ?_⟩
          rw [bt_or1 hj ⟨j1, j2⟩, (f1 _ hc.1 hc.2).2 j j1 j2, ← hcc]
          constructor
          · rintro (g | g)
            · exact ⟨by omega, g.2⟩
            · rw [show 8 * j + c = x by omega]
              exact ⟨by omega, q, q2⟩
          · intro g
            by_cases hjj : j = x / 8
            · exact Or.inr hjj
            · exact Or.inl ⟨by omega, g.2⟩
        · rw [if_neg hcc]
          refine ⟨(f1 c c1 c2).1, fun j j1 j2 => ?_⟩
          rw [(f1 c c1 c2).2 j j1 j2]
          exact ⟨fun g => ⟨by omega, g.2⟩, fun g => ⟨by omega, g.2⟩⟩
  refine gX4_openBy (d + 1) p 64 y m Q (s_fillI (by omega) ?_)
  refine L10 64 0 _ (by omega) (by omega) (fun q hq => by funext z; unfold jFil; rw [if_neg (by rintro ⟨g, _⟩; exact hq g)]) (fun c c1 c2 => ?_)
  have e0 : jFil m (p + 3) 8 0 (p + 3) c = 0 := by unfold jFil; rw [if_pos ⟨rfl, c1, c2⟩]
  unfold pO
  rw [e0]
  exact ⟨mk_0, fun j j1 j2 => by rw [bt_0]; exact ⟨(fun g => by cases g), (fun g => by omega)⟩⟩
theorem s_load {d : Nat} {G : Int → Int → Int → Int} {rk : Int → Int} {m : jM} {Q : Int → jM → Prop} (hk : cOk G rk m) (hown : ∀ x : Int, 0 ≤ x → x < 64 → -1 ≤ m 3 x ∧ m 3 x ≤ 1000000000)
    (h : ∀ m', (∀ q, q ≠ 51 → q ≠ 52 → q ≠ 53 → q ≠ 54 → q ≠ 56 → q ≠ 57 → m' q = m q) → m' 54 0 = m 1 1 → (∀ f, f ≠ 0 → m' 54 f = m 54 f) → (∀ c : Int, 0 ≤ c → c < 8 → mk8 (m' 57 c)) → (∀ j c : Int, 0 ≤ j → j < 8 → 0 ≤ c → c < 8 → pO (m' 57) j c = gO (bt (m 1 0)) (bt (m 1 1)) (cBu G m) (m 4) j c ∧ (gO (bt (m 1 0)) (bt (m 1 1)) (cBu G m) (m 4) j c = true → rB (m' 56) j c = cBu G m j c)) →
      (∀ x : Int, 0 ≤ x → x < 64 → m' 56 x = if (bt (m 1 0) (x / 8) = true ∧ bt (m 1 1) (x % 8) = true) ∧ cBu G m (x / 8) (x % 8) ≠ -1 then cBu G m (x / 8) (x % 8) else -4611686018427387904) → Q 0 m') : jK (d + 13) zX4_load [jO 4 54, jO 0 1, jO 9 51] m Q := by
  have hbu : ∀ j c : Int, 0 ≤ j → j < 8 → 0 ≤ c → c < 8 → -1 ≤ cBu G m j c ∧ cBu G m j c ≤ 1000000000 := fun j c j1 j2 c1 c2 => burF_b (hown _ (by omega) (by omega)) (gVal_b hk.2.1 ⟨j1, j2⟩ ⟨c1, c2⟩ (cOk_w hk (by omega)))
  have loop : ∀ (r : Nat) (x : Int) (m1 : jM), 0 ≤ x → x + r = 64 → (∀ q, q ≠ 51 → q ≠ 52 → q ≠ 53 → q ≠ 54 → q ≠ 56 → m1 q = m q) → m1 54 0 = m 1 1 → (∀ f, f ≠ 0 → m1 54 f = m 54 f) → (∀ z : Int, 0 ≤ z → z < x → m1 56 z = if (bt (m 1 0) (z / 8) = true ∧ bt (m 1 1) (z % 8) = true) ∧ cBu G m (z / 8) (z % 8) ≠ -1 then cBu G m (z / 8) (z % 8) else -4611686018427387904) → aX4_load_10 (d + 12) x m1 Q := by
    intro r
    induction r with
    | zero =>
      intro x m1 hx hr f0 f1 f2 f3
      refine gX4_load_10 (d + 12) x m1 Q ⟨fun q => by omega, fun _ => jK_deep (show (d + 6) + 2 ≤ d + 12 by omega) (s_openBy (p := 54) (y := 4) (by omega) (fun m2 g0 g1 => ?_))⟩
      rw [show (54 : Int) + 3 = 57 from rfl, show (54 : Int) + 2 = 56 from rfl, f0 4 (by omega) (by omega) (by omega) (by omega) (by omega)] at g1
      rw [show (54 : Int) + 3 = 57 from rfl] at g0
      have hv : ∀ j c : Int, 0 ≤ j → j < 8 → 0 ≤ c → c < 8 → m1 56 (8 * j + c) = if (bt (m 1 0) j = true ∧ bt (m 1 1) c = true) ∧ cBu G m j c ≠ -1 then cBu G m j c else -4611686018427387904 := by
        intro j c j1 j2 c1 c2
        have := f3 (8 * j + c) (by omega) (by omega)
        rw [show (8 * j + c) / 8 = j by omega, show (8 * j + c) % 8 = c by omega] at this
        exact this
      refine h m2 (fun q q1 q2 q3 q4 q5 q6 => by rw [g0 q q6]; exact f0 q q1 q2 q3 q4 q5) (by rw [g0 54 (by omega)]; exact f1) (fun f hf => by rw [g0 54 (by omega)]; exact f2 f hf) (fun c c1 c2 => (g1 c c1 c2).1) (fun j c j1 j2 c1 c2 => ⟨bool_eq ?_, fun g => ?_⟩) (fun z z1 z2 => by rw [g0 56 (by omega)]; exact f3 z z1 (by omega))
      · rw [(g1 c c1 c2).2 j j1 j2, gO_iff, hv j c j1 j2 c1 c2]
        have := hbu j c j1 j2 c1 c2
        constructor
        · rintro ⟨a1, a2, a3⟩
          by_cases hg : (bt (m 1 0) j = true ∧ bt (m 1 1) c = true) ∧ cBu G m j c ≠ -1
          · exact ⟨hg.1.1, hg.1.2, hg.2, a2, a3⟩
          · rw [if_neg hg] at a1; exact absurd rfl a1
        · rintro ⟨a1, a2, a3, a4, a5⟩
          rw [if_pos ⟨⟨a1, a2⟩, a3⟩]
          exact ⟨by omega, a4, a5⟩
      · unfold rB
        rw [gO_iff] at g
        rw [g0 56 (by omega), hv j c j1 j2 c1 c2, if_pos ⟨⟨g.1, g.2.1⟩, g.2.2.1⟩]
    | succ r ih =>
      intro x m1 hx hr f0 f1 f2 f3
      have ex : w32 (x + 1) = x + 1 := w32_id (by omega) (by omega)
      have k1 := f0 1 (by omega) (by omega) (by omega) (by omega) (by omega)
      have hk1 : cOk G rk m1 := cOk_fr hk (fun q hq => f0 q (by omega) (by omega) (by omega) (by omega) (by omega))
      have eB : cBu G m1 = cBu G m := by
        unfold cBu
        have : cV0 G m1 = cV0 G m := by funext j c; unfold cV0; rw [f0 2 (by omega) (by omega) (by omega) (by omega) (by omega)]
        rw [this, f0 3 (by omega) (by omega) (by omega) (by omega) (by omega)]
      have go : ∀ (m2 : jM) (v : Int), cFr m1 m2 → v = (if (bt (m 1 0) (x / 8) = true ∧ bt (m 1 1) (x % 8) = true) ∧ cBu G m (x / 8) (x % 8) ≠ -1 then cBu G m (x / 8) (x % 8) else -4611686018427387904) → aX4_load_10 (d + 12) (x + 1) (jUp m2 56 x v) Q := by
        intro m2 v g0 hv
        refine ih (x + 1) _ (by omega) (by omega) (fun q q1 q2 q3 q4 q5 => by rw [up_ne q5, g0 q q1 q2 q3]; exact f0 q q1 q2 q3 q4 q5) (by rw [up_ne (by omega), g0 54 (by omega) (by omega) (by omega)]; exact f1) (fun f hf => by rw [up_ne (by omega), g0 54 (by omega) (by omega) (by omega)]; exact f2 f hf) (fun z z1 z2 => ?_)
        rw [up_eq]
        split
        · rename_i hz; rw [hz]; exact hv
        · rw [g0 56 (by omega) (by omega) (by omega)]; exact f3 z z1 (by omega)
      refine gX4_load_10 (d + 12) x m1 Q ⟨fun _ => jK_deep (show (d + 7) + 1 ≤ d + 12 by omega) (s_isIn ⟨hx, by omega⟩ ⟨fun q => ⟨by omega, ?_⟩, fun q => jK_deep (show (d + 1) + 11 ≤ d + 12 by omega) (s_burdenC hk1 ⟨hx, by omega⟩ (fun m2 g0 => ⟨by omega, ?_⟩) ?_)⟩), fun q => by omega⟩
      · rw [bI_0, k1] at q
        rw [ex]
        exact go m1 _ (fun _ _ _ _ => rfl) (by rw [if_neg (fun g => q g.1)])
      · rw [bI_0, k1, Classical.not_not] at q
        rw [ex, eB]
        refine go m2 _ g0 ?_
        by_cases hn : cBu G m (x / 8) (x % 8) = -1
        · rw [if_pos hn, if_neg (fun g => g.2 hn)]
        · rw [if_neg hn, if_pos ⟨q, hn⟩]
      · rw [f0 3 (by omega) (by omega) (by omega) (by omega) (by omega)]
        exact (hown x hx (by omega)).1
  refine gX4_load (d + 12) m Q (loop 64 0 _ (by omega) (by omega) (fun q q1 q2 q3 q4 q5 => up_ne q4) up_same (fun f hf => up_oth hf) (fun z z1 z2 => by omega))

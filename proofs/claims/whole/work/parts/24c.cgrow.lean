/-! the class's Greatest: turn, grow -/
def iV (g r : Int → Int) : Prop := ∀ c : Int, 0 ≤ c → c < 8 → (r c = -1 ∧ ¬ mD g c) ∨ (0 ≤ r c ∧ r c < 8 ∧ g (r c) = c)
def rel1 (g : Int → Int) (j : Int) : Int → Int := fun x => if x = j then -1 else g x
def qS (E : Int → Int → Bool) (h fr qu : Int → Int) (S w : Int) : Prop := ∀ j : Int, 0 ≤ j → j < 8 → bt S j = true → h j ≠ -1 ∧ ∃ x y : Int, 0 ≤ x ∧ x < y ∧ y < w ∧ qu x = fr j ∧ qu y = h j ∧ E j (fr j) = true
def qQ (h qu : Int → Int) (S w root : Int) : Prop := qu 0 = root ∧ (1 ≤ w ∧ w ≤ 8) ∧ (∀ x : Int, 0 ≤ x → x < w → 0 ≤ qu x ∧ qu x < 8) ∧ (∀ x y : Int, 0 ≤ x → x < w → 0 ≤ y → y < w → qu x = qu y → x = y) ∧ (∀ y : Int, 1 ≤ y → y < w → ∃ j : Int, 0 ≤ j ∧ j < 8 ∧ bt S j = true ∧ h j = qu y) ∧ w = 1 + pc8 S
theorem s_turn {d : Nat} {j0 root S w : Int} {h qu : Int → Int} {E : Int → Int → Bool} {D X : Int → Prop} {m : jM} {Q : Int → jM → Prop} (hv : mV E D h) (hroot : 0 ≤ root ∧ root < 8) (hun : ¬ mD h root) (hcl : mCl E h X) (hS : qS E h (m 73) qu S w) (hQ : qQ h qu S w root)
    (e72 : ∀ j : Int, 0 ≤ j → j < 8 → m 72 j = h j) (hi : iV h (m 71)) (hj0 : 0 ≤ j0 ∧ j0 < 8) (hf0 : h j0 = -1) (hx0 : ∃ x : Int, 0 ≤ x ∧ x < w ∧ qu x = m 73 j0) (hE0 : E j0 (m 73 j0) = true)
    (hT : ∀ m' : jM, (∀ q, q ≠ 71 → q ≠ 72 → m' q = m q) → mAug E D root h X (m' 72) → iV (m' 72) (m' 71) → Q 0 m') : jK (d + 1) zX2_turn [jO 2 70, jI j0] m Q := by
  obtain ⟨q0, q1, q2, q3, q4, q5⟩ := hQ
  have loop : ∀ (r : Nat) (j t x : Int) (m1 : jM), x + 1 ≤ r → t + x < 8 → 0 ≤ t → 0 ≤ x → x < w → (0 ≤ j ∧ j < 8) → qu x = m 73 j → E j (m 73 j) = true → (h j = -1 ∨ ∃ y : Int, x < y ∧ y < w ∧ qu y = h j) → ¬ (h j ≠ -1 ∧ X (h j)) →
      (∀ q, q ≠ 71 → q ≠ 72 → m1 q = m q) → mV E D (rel1 (m1 72) j) → (∀ c : Int, 0 ≤ c → (mD (rel1 (m1 72) j) c ↔ mD h c)) → iV (rel1 (m1 72) j) (m1 71) → (∀ j' y : Int, 0 ≤ j' → j' < 8 → 0 ≤ y → y ≤ x → h j' = qu y → m1 72 j' = h j') → (∀ j' : Int, 0 ≤ j' → j' < 8 → h j' ≠ -1 → X (h j') → m1 72 j' = h j') → aX2_turn_4 d j t m1 Q := by
    intro r
    induction r with
    | zero => intro j t x m1 hr; omega
    | succ r ih =>
      intro j t x m1 hr htx ht hx hxw hj hqx hE hpos hnX f0 g1 g2 g3 g4 g5
      have et : w32 (t + 1) = t + 1 := w32_id (by omega) (by omega)
      have k73 := f0 73 (by omega) (by omega)
      obtain ⟨c1, c2⟩ := q2 x hx hxw
      refine gX2_turn_4 d j t m1 Q ⟨fun _ => ⟨fun q => by omega, fun _ => ⟨hj, by rw [k73, ← hqx]; omega, by rw [k73, ← hqx]; omega, hj, ?_⟩⟩, fun q => by omega⟩
      rw [k73, ← hqx, et]
      have e71 : jUp (jUp m1 71 (qu x) j) 72 j (qu x) 71 = fun c => if c = qu x then j else m1 71 c := by rw [up_ne (by omega), jUp_row, if_pos rfl]
      have e72' : jUp (jUp m1 71 (qu x) j) 72 j (qu x) 72 = fun y => if y = j then qu x else rel1 (m1 72) j y := by
        rw [jUp_row, if_pos rfl, up_ne (by omega)]
        funext y
        by_cases hy : y = j
        · rw [if_pos hy, if_pos hy]
        · rw [if_neg hy, if_neg hy]; unfold rel1; rw [if_neg hy]
      have fO : ∀ q, q ≠ 71 → q ≠ 72 → jUp (jUp m1 71 (qu x) j) 72 j (qu x) q = m q := fun q h1 h2 => by rw [up_ne h2, up_ne h1]; exact f0 q h1 h2
      have hEx : E j (qu x) = true := by rw [hqx]; exact hE
      by_cases hx0 : x = 0
      · -- the root
        have hr : qu x = root := by rw [hx0, q0]
        have hun' : ¬ mD (rel1 (m1 72) j) (qu x) := by rw [g2 (qu x) c1, hr]; exact hun
        have hgiven : m1 71 (qu x) = -1 := by
          rcases g3 (qu x) c1 c2 with ⟨g, _⟩ | ⟨a1, a2, a3⟩
          · exact g
          · exact absurd ⟨_, a1, a2, a3⟩ hun'
        rw [hgiven]
        have fin : Q 0 (jUp (jUp m1 71 (qu x) j) 72 j (qu x)) := by
          refine hT _ fO ?_ ?_
          · rw [e72', hr]
            rw [hr] at hun' hEx
            refine ⟨mV_set g1 hj hroot hEx (fun y h1 h2 _ h3 => hun' ⟨y, h1, h2, h3⟩), fun c hc => ?_, fun j' h1 h2 h3 h4 => ?_⟩
            · rw [← g2 c hc]
              constructor
              · rintro ⟨y, y1, y2, y3⟩
                dsimp only at y3
                by_cases hy : y = j
                · rw [if_pos hy] at y3; exact Or.inr y3.symm
                · rw [if_neg hy] at y3; exact Or.inl ⟨y, y1, y2, y3⟩
              · rintro (⟨y, y1, y2, y3⟩ | y3)
                · refine ⟨y, y1, y2, ?_⟩
                  dsimp only
                  by_cases hy : y = j
                  · unfold rel1 at y3; rw [if_pos hy] at y3; omega
                  · rw [if_neg hy]; exact y3
                · exact ⟨j, hj.1, hj.2, by dsimp only; rw [if_pos rfl]; exact y3.symm⟩
            · dsimp only
              by_cases hy : j' = j
              · rw [hy] at h3 h4; exact absurd ⟨h3, h4⟩ hnX
              · rw [if_neg hy]; unfold rel1; rw [if_neg hy]; exact g5 j' h1 h2 h3 h4
          · rw [e71, e72']
            intro c hc1 hc2
            dsimp only
            by_cases hc : c = qu x
            · right
              rw [if_pos hc]
              refine ⟨hj.1, hj.2, ?_⟩
              rw [if_pos rfl]; exact hc.symm
            · rw [if_neg hc]
              rcases g3 c hc1 hc2 with ⟨a1, a2⟩ | ⟨a1, a2, a3⟩
              · left
                refine ⟨a1, ?_⟩
                rintro ⟨y, y1, y2, y3⟩
                dsimp only at y3
                by_cases hy : y = j
                · rw [if_pos hy] at y3; exact hc y3.symm
                · rw [if_neg hy] at y3; exact a2 ⟨y, y1, y2, y3⟩
              · right
                refine ⟨a1, a2, ?_⟩
                have : ¬ m1 71 c = j := by
                  intro g; unfold rel1 at a3; rw [if_pos g] at a3; omega
                rw [if_neg this]; exact a3
        exact gX2_turn_4 d (-1) (t + 1) _ Q ⟨fun _ => ⟨fun _ => fin, fun q => absurd rfl q⟩, fun _ => fin⟩
      · -- another one gives its judge away
        obtain ⟨j', b1, b2, b3, b4⟩ := q4 x (by omega) hxw
        obtain ⟨d1, x', y', d2, d3, d4, d5, d6, d7⟩ := hS j' b1 b2 b3
        have hy' : y' = x := q3 y' x (by omega) d4 hx hxw (by rw [d6, b4])
        have hne : j' ≠ j := by
          rintro rfl
          rcases hpos with g | ⟨y, y1, y2, y3⟩
          · exact d1 g
          · have := q3 y x (by omega) y2 hx hxw (by rw [y3, b4]); omega
        have hgj : m1 72 j' = qu x := by rw [g4 j' x b1 b2 hx (Int.le_refl _) b4, b4]
        have hrj : rel1 (m1 72) j j' = qu x := by unfold rel1; rw [if_neg hne]; exact hgj
        have hgiven : m1 71 (qu x) = j' := by
          rcases g3 (qu x) c1 c2 with ⟨_, g⟩ | ⟨a1, a2, a3⟩
          · exact absurd ⟨j', b1, b2, hrj⟩ g
          · exact g1.2 _ _ a1 a2 b1 b2 (by rw [a3, hrj]) (by rw [a3]; omega)
        rw [hgiven]
        have enew : rel1 (jUp (jUp m1 71 (qu x) j) 72 j (qu x) 72) j' = fun y => if y = j then qu x else rel1 (rel1 (m1 72) j) j' y := by
          rw [e72']
          funext y
          show (if y = j' then -1 else (if y = j then qu x else rel1 (m1 72) j y)) = if y = j then qu x else (if y = j' then -1 else rel1 (m1 72) j y)
          by_cases hy : y = j
          · rw [if_pos hy, if_pos hy, if_neg (by rw [hy]; exact fun g => hne g.symm)]
          · rw [if_neg hy, if_neg hy]
        have hnoX' : ¬ (h j' ≠ -1 ∧ X (h j')) := by
          rintro ⟨_, g⟩
          rw [b4] at g
          exact hnX (hcl (qu x) j g hj.1 hj.2 hEx)
        have hD : D (qu x) := by
          rcases hv.1 j' b1 b2 with g | ⟨_, _, g, _⟩
          · exact absurd g d1
          · rw [← b4]; exact g
        refine ih j' (t + 1) x' _ (by omega) (by omega) (by omega) d2 (by omega) ⟨b1, b2⟩ d5 d7 (Or.inr ⟨y', d3, d4, d6⟩) hnoX' fO ?_ (fun c hc => ?_) ?_ (fun j2 y2 k1 k2 k3 k4 k5 => ?_) (fun j2 k1 k2 k3 k4 => ?_)
        · rw [enew]
          refine mV_w (mV_set (mV_rel (j := j') g1) hj ⟨c1, c2⟩ hEx (fun y h1 h2 h3 h4 => ?_)) (fun y hy => by rcases hy with hy | hy; exact hy; rw [hy]; exact hD)
          unfold rel1 at h4
          by_cases hyj : y = j'
          · rw [if_pos hyj] at h4; omega
          · rw [if_neg hyj] at h4
            exact hyj (g1.2 y j' h1 h2 b1 b2 (by rw [hrj]; exact h4) (by unfold rel1; rw [h4]; omega))
        · rw [enew, ← g2 c hc]
          constructor
          · rintro ⟨y, y1, y2, y3⟩
            dsimp only at y3
            by_cases hy : y = j
            · rw [if_pos hy] at y3; exact ⟨j', b1, b2, by rw [hrj]; exact y3⟩
            · rw [if_neg hy] at y3
              unfold rel1 at y3
              by_cases hy2 : y = j'
              · rw [if_pos hy2] at y3; omega
              · rw [if_neg hy2] at y3; exact ⟨y, y1, y2, y3⟩
          · rintro ⟨y, y1, y2, y3⟩
            by_cases hy2 : y = j'
            · refine ⟨j, hj.1, hj.2, ?_⟩
              dsimp only
              rw [if_pos rfl, ← y3, hy2, hrj]
            · refine ⟨y, y1, y2, ?_⟩
              dsimp only
              by_cases hy : y = j
              · unfold rel1 at y3; rw [if_pos hy] at y3; omega
              · rw [if_neg hy]
                show rel1 (rel1 (m1 72) j) j' y = c
                rw [← y3]
                show (if y = j' then -1 else rel1 (m1 72) j y) = _
                rw [if_neg hy2]
        · rw [enew, e71]
          intro c hc1 hc2
          dsimp only
          by_cases hc : c = qu x
          · right
            rw [if_pos hc]
            refine ⟨hj.1, hj.2, ?_⟩
            rw [if_pos rfl]; exact hc.symm
          · rw [if_neg hc]
            rcases g3 c hc1 hc2 with ⟨a1, a2⟩ | ⟨a1, a2, a3⟩
            · left
              refine ⟨a1, ?_⟩
              rintro ⟨y, y1, y2, y3⟩
              dsimp only at y3
              by_cases hy : y = j
              · rw [if_pos hy] at y3; exact hc y3.symm
              · rw [if_neg hy] at y3
                by_cases hy2 : y = j'
                · have : rel1 (rel1 (m1 72) j) j' y = -1 := by show (if y = j' then -1 else rel1 (m1 72) j y) = -1; rw [if_pos hy2]
                  omega
                · refine a2 ⟨y, y1, y2, ?_⟩
                  have : rel1 (rel1 (m1 72) j) j' y = rel1 (m1 72) j y := by show (if y = j' then -1 else rel1 (m1 72) j y) = _; rw [if_neg hy2]
                  rw [← this]; exact y3
            · right
              refine ⟨a1, a2, ?_⟩
              have n1 : ¬ m1 71 c = j := by
                intro g; unfold rel1 at a3; rw [if_pos g] at a3; omega
              have n2 : ¬ m1 71 c = j' := by
                intro g; rw [g, hrj] at a3; exact hc a3.symm
              rw [if_neg n1]
              show (if m1 71 c = j' then -1 else rel1 (m1 72) j (m1 71 c)) = c
              rw [if_neg n2]; exact a3
        · rw [e72']
          dsimp only
          have n1 : j2 ≠ j := by
            rintro rfl
            rcases hpos with g | ⟨y, y1, y3, y4⟩
            · rw [g] at k5
              have := q2 y2 k3 (by omega); omega
            · have := q3 y y2 (by omega) y3 k3 (by omega) (by rw [y4, k5]); omega
          rw [if_neg n1]
          unfold rel1
          rw [if_neg n1]
          exact g4 j2 y2 k1 k2 k3 (by omega) k5
        · rw [e72']
          dsimp only
          have n1 : j2 ≠ j := by rintro rfl; exact hnX ⟨k3, k4⟩
          rw [if_neg n1]
          unfold rel1
          rw [if_neg n1]
          exact g5 j2 k1 k2 k3 k4
  obtain ⟨x, x1, x2, x3⟩ := hx0
  have er : ∀ y : Int, 0 ≤ y → y < 8 → rel1 (m 72) j0 y = h y := by
    intro y h1 h2
    unfold rel1
    split
    · rename_i g; rw [g, hf0]
    · exact e72 y h1 h2
  have hmD : ∀ c : Int, mD (rel1 (m 72) j0) c ↔ mD h c := fun c => ⟨fun ⟨y, y1, y2, y3⟩ => ⟨y, y1, y2, by rw [← er y y1 y2]; exact y3⟩, fun ⟨y, y1, y2, y3⟩ => ⟨y, y1, y2, by rw [er y y1 y2]; exact y3⟩⟩
  refine gX2_turn d j0 m Q (loop 8 j0 0 x m (by omega) (by omega) (by omega) x1 x2 hj0 x3 hE0 (Or.inl hf0) (fun g => g.1 hf0) (fun _ _ _ => rfl) ⟨fun y h1 h2 => by rw [er y h1 h2]; exact hv.1 y h1 h2, fun y z h1 h2 h3 h4 => by rw [er y h1 h2, er z h3 h4]; exact hv.2 y z h1 h2 h3 h4⟩ (fun c _ => hmD c) (fun c h1 h2 => ?_) (fun j' y h1 h2 _ _ _ => e72 j' h1 h2) (fun j' h1 h2 _ _ => e72 j' h1 h2))
  rcases hi c h1 h2 with ⟨a1, a2⟩ | ⟨a1, a2, a3⟩
  · exact Or.inl ⟨a1, fun g => a2 ((hmD c).mp g)⟩
  · exact Or.inr ⟨a1, a2, by rw [er _ a1 a2]; exact a3⟩
theorem pcn_true : ∀ n : Nat, pcn (fun _ => true) n = n := by
  intro n
  induction n with
  | zero => rfl
  | succ n ih => unfold pcn; rw [ih]; simp
theorem pcn_ne {k : Int} (hk : 0 ≤ k ∧ k < 8) : pcn (fun c => decide (c ≠ k)) 8 = 7 := by
  have h := pcn_add (f := fun c => decide (c ≠ k)) (g := fun _ => true) (k := k) (n := 8) hk (by simp) (fun j _ _ => by by_cases g : j = k <;> simp [g])
  rw [pcn_true] at h
  omega
theorem s_grow {d : Nat} {y root : Int} {D X : Int → Prop} {m : jM} {Q : Int → jM → Prop} (hy : y < 70 ∨ 74 < y) (hroot : 0 ≤ root ∧ root < 8) (hv : mV (pO (m y)) D (m 72)) (hun : ¬ mD (m 72) root) (hcl : mCl (pO (m y)) (m 72) X) (hi : iV (m 72) (m 71))
    (hT : ∀ m' : jM, (∀ q, (q < 71 ∨ 74 < q) → m' q = m q) → mAug (pO (m y)) D root (m 72) X (m' 72) → iV (m' 72) (m' 71) → Q 1 m')
    (hF : ∀ (m' : jM) (X0 : Int → Prop), (∀ q, (q < 71 ∨ 74 < q) → m' q = m q) → m' 71 = m 71 → m' 72 = m 72 → X0 root → mCl (pO (m y)) (m 72) X0 → Q 0 m') : jK (d + 2) zX2_grow [jO 2 70, jY 0 8 y, jI root] m Q := by
  have hfr : ∀ j : Int, 0 ≤ j → j < 8 → m 72 j = -1 ∨ (0 ≤ m 72 j ∧ m 72 j < 8) := fun j h1 h2 => (hv.1 j h1 h2).imp id (fun g => ⟨g.1, g.2.1⟩)
  have L15 : ∀ (R : Nat) (S w i : Int) (m1 : jM), i + R = 8 → 0 ≤ i → i ≤ w → mk8 S → (∀ q, q ≠ 73 → q ≠ 74 → m1 q = m q) → qS (pO (m y)) (m 72) (m1 73) (m1 74) S w → qQ (m 72) (m1 74) S w root → (∀ x j : Int, 0 ≤ x → x < i → 0 ≤ j → j < 8 → pO (m y) j (m1 74 x) = true → bt S j = true) → aX2_grow_15 (d + 1) 8 y S w i m1 Q := by
    intro R
    have stop : ∀ (S w i : Int) (m1 : jM), w ≤ i → (∀ q, q ≠ 73 → q ≠ 74 → m1 q = m q) → qS (pO (m y)) (m 72) (m1 73) (m1 74) S w → qQ (m 72) (m1 74) S w root → (∀ x j : Int, 0 ≤ x → x < i → 0 ≤ j → j < 8 → pO (m y) j (m1 74 x) = true → bt S j = true) → Q 0 m1 := by
      intro S w i m1 hwi f0 f1 f2 f3
      obtain ⟨q0, q1, q2, q3, q4, q5⟩ := f2
      refine hF m1 (fun c => ∃ x : Int, 0 ≤ x ∧ x < w ∧ m1 74 x = c) (fun q hq => f0 q (by omega) (by omega)) (f0 71 (by omega) (by omega)) (f0 72 (by omega) (by omega)) ⟨0, by omega, by omega, q0⟩ ?_
      rintro c j ⟨x, x1, x2, x3⟩ h1 h2 h3
      rw [← x3] at h3
      obtain ⟨a1, z, u, a2, a3, a4, a5, a6, a7⟩ := f1 j h1 h2 (f3 x j x1 (by omega) h1 h2 h3)
      exact ⟨a1, u, by omega, a4, a6⟩
    induction R with
    | zero =>
      intro S w i m1 hi0 hi1 hiw hS f0 f1 f2 f3
      have := f2.2.1
      refine gX2_grow_15 (d + 1) 8 y S w i m1 Q ⟨fun q => by omega, fun _ => stop S w i m1 (by omega) f0 f1 f2 f3⟩
    | succ R ihR =>
      intro S w i m1 hi0 hi1 hiw hS f0 f1 f2 f3
      have ei : w32 (i + 1) = i + 1 := w32_id (by omega) (by omega)
      refine gX2_grow_15 (d + 1) 8 y S w i m1 Q ⟨fun q => ⟨fun _ => ⟨by omega, f2.2.2.1 i hi1 q, ?_⟩, fun q2 => by omega⟩, fun q => stop S w i m1 (by omega) f0 f1 f2 f3⟩
      rw [f0 y (by omega) (by omega)]
      obtain ⟨c1, c2⟩ := f2.2.2.1 i hi1 q
      have hmat : ∀ c, c = m1 74 i → aX2_grow_51 (d + 1) 8 y S w i c (iAnd (m y c) (iXor S (-1))) 0 m1 Q := by
        intro c hc
        have hfresh : ∀ j : Int, 0 ≤ j → j < 8 → iAnd (iShr (iAnd (m y c) (iXor S (-1))) j) 1 = if (bt (m y c) j = true ∧ bt S j = false) then 1 else 0 := fun j h1 h2 => bt_free (by omega)
        generalize iAnd (m y c) (iXor S (-1)) = fresh at *
        have L51 : ∀ (r : Nat) (S1 w1 j : Int) (m2 : jM), 0 ≤ j → j + r = 8 → mk8 S1 → w ≤ w1 → (∀ q, q ≠ 73 → q ≠ 74 → m2 q = m q) → (∀ x : Int, 0 ≤ x → x < w → m2 74 x = m1 74 x) → qS (pO (m y)) (m 72) (m2 73) (m2 74) S1 w1 → qQ (m 72) (m2 74) S1 w1 root →
            (∀ x : Int, 0 ≤ x → x < 8 → bt S x = true → bt S1 x = true) → (∀ x : Int, 0 ≤ x → x < 8 → bt S1 x = true → bt S x = true ∨ x < j) → (∀ x : Int, 0 ≤ x → x < j → pO (m y) x c = true → bt S1 x = true) → aX2_grow_51 (d + 1) 8 y S1 w1 i c fresh j m2 Q := by
          intro r
          induction r with
          | zero =>
            intro S1 w1 j m2 hj hr hS1 hw g0 g1 g2 g3 g4 g5 g6
            refine gX2_grow_51 (d + 1) 8 y S1 w1 i c fresh j m2 Q ⟨fun q => by omega, fun _ => ?_⟩
            rw [ei]
            refine ihR S1 w1 (i + 1) m2 (by omega) (by omega) (by omega) hS1 g0 g2 g3 (fun x z h1 h2 h3 h4 h5 => ?_)
            rw [g1 x h1 (by omega)] at h5
            by_cases hx : x = i
            · rw [hx, ← hc] at h5
              exact g6 z h3 (by omega) h5
            · exact g4 z h3 h4 (f3 x z h1 (by omega) h3 h4 h5)
          | succ r ih =>
            intro S1 w1 j m2 hj hr hS1 hw g0 g1 g2 g3 g4 g5 g6
            have ej : w32 (j + 1) = j + 1 := w32_id (by omega) (by omega)
            have hj8 : 0 ≤ j ∧ j < 8 := by omega
            have hfj := hfresh j hj8.1 hj8.2
            have k72 := g0 72 (by omega) (by omega)
            have e72 : jUp m2 73 j c 72 = m 72 := by rw [up_ne (by omega)]; exact k72
            have hqc : m2 74 i = c := by rw [g1 i hi1 q, hc]
            refine gX2_grow_51 (d + 1) 8 y S1 w1 i c fresh j m2 Q ⟨fun _ => ⟨fun q2 => ?_, fun q2 => ⟨hj8, hj8, fun q3 => ?_, fun q3 => ⟨fun q4 => ⟨hj8, by omega, ?_⟩, fun q4 => ?_⟩⟩⟩, fun q => by omega⟩
            · rw [hfj] at q2
              have hn : ¬ (bt (m y c) j = true ∧ bt S j = false) := fun g => by rw [if_pos g] at q2; omega
              rw [ej]
              refine ih S1 w1 (j + 1) m2 (by omega) (by omega) hS1 hw g0 g1 g2 g3 g4 (fun x h1 h2 h3 => (g5 x h1 h2 h3).imp id (fun g => by omega)) (fun x h1 h2 h3 => ?_)
              by_cases hx : x = j
              · rw [hx] at h3 ⊢
                have : bt S j = true := by
                  cases hb : bt S j with
                  | true => rfl
                  | false => exact absurd ⟨h3, hb⟩ hn
                exact g4 j hj8.1 hj8.2 this
              · exact g6 x h1 (by omega) h3
            all_goals
              rw [hfj] at q2
              have hn : bt (m y c) j = true ∧ bt S j = false := by
                apply Decidable.byContradiction; intro g; rw [if_neg g] at q2; exact q2 rfl
              have hEj : pO (m y) j c = true := hn.1
              have hS1j : bt S1 j = false := by
                cases hb : bt S1 j with
                | false => rfl
                | true =>
                  rcases g5 j hj8.1 hj8.2 hb with g | g
                  · rw [g] at hn; cases hn.2
                  · omega
              rw [e72] at q3
            · -- a free one
              have hqS : qS (pO (m y)) (m 72) (jUp m2 73 j c 73) (m2 74) S1 w1 := by
                intro x h1 h2 h3
                have hxj : x ≠ j := by rintro rfl; rw [h3] at hS1j; cases hS1j
                rw [up_oth hxj]
                exact g2 x h1 h2 h3
              refine s_turn (h := m 72) (qu := m2 74) (S := S1) (w := w1) (root := root) hv hroot hun hcl hqS g3 (fun x _ _ => by rw [e72]) (by rw [up_ne (by omega), g0 71 (by omega) (by omega)]; exact hi) hj8 q3 ⟨i, hi1, by omega, by rw [up_same]; exact hqc⟩ (by rw [up_same]; exact hEj) (fun m' p1 p2 p3 => ?_)
              exact hT m' (fun q hq => by rw [p1 q (by omega) (by omega), up_ne (by omega)]; exact g0 q (by omega) (by omega)) p2 p3
            · -- its case waits
              have hhj : 0 ≤ m 72 j ∧ m 72 j < 8 := by
                rcases hfr j hj8.1 hj8.2 with g | g
                · exact absurd g q3
                · exact g
              obtain ⟨a0, a1, a2, a3, a4, a5⟩ := g3
              have ew : w32 (w1 + 1) = w1 + 1 := w32_id (by omega) (by omega)
              rw [ej, ew, e72]
              have n73 : ∀ v, jUp (jUp m2 73 j c) 74 w1 v 73 = fun x => if x = j then c else m2 73 x := fun v => by rw [up_ne (by omega), jUp_row, if_pos rfl]
              have n74 : ∀ v x, jUp (jUp m2 73 j c) 74 w1 v 74 x = if x = w1 then v else m2 74 x := fun v x => by rw [up_eq, up_ne (by omega)]
              -- it isn't there yet
              have hnew : ∀ x : Int, 0 ≤ x → x < w1 → m2 74 x ≠ m 72 j := by
                intro x h1 h2 h3
                by_cases hx : x = 0
                · rw [hx, a0] at h3; exact hun ⟨j, hj8.1, hj8.2, h3.symm⟩
                · obtain ⟨j', b1, b2, b3, b4⟩ := a4 x (by omega) h2
                  have := hv.2 j' j b1 b2 hj8.1 hj8.2 (by rw [b4, h3]) (by rw [b4, h3]; omega)
                  rw [this, hS1j] at b3; cases b3
              refine ih (iOr S1 (iShl 1 j)) (w1 + 1) (j + 1) _ (by omega) (by omega) (mk_or1 hS1 hj8) (by omega) (fun q h1 h2 => by rw [up_ne h2, up_ne h1]; exact g0 q h1 h2) (fun x h1 h2 => by rw [n74, if_neg (by omega)]; exact g1 x h1 h2) (fun x h1 h2 h3 => ?_) ⟨?_, by omega, fun x h1 h2 => ?_, fun x z h1 h2 h3 h4 h5 => ?_, fun z h1 h2 => ?_, ?_⟩ (fun x h1 h2 h3 => (bt_or1 hj8 ⟨h1, h2⟩).mpr (Or.inl (g4 x h1 h2 h3))) (fun x h1 h2 h3 => ?_) (fun x h1 h2 h3 => ?_)
              · rw [n73]
                dsimp only
                by_cases hx : x = j
                · rw [hx, if_pos rfl]
                  exact ⟨q3, i, w1, hi1, by omega, by omega, by rw [n74, if_neg (by omega)]; exact hqc, by rw [n74, if_pos rfl], hEj⟩
                · rw [if_neg hx]
                  rcases (bt_or1 hj8 ⟨h1, h2⟩).mp h3 with g | g
                  · obtain ⟨b1, z, u, b2, b3, b4, b5, b6, b7⟩ := g2 x h1 h2 g
                    exact ⟨b1, z, u, b2, b3, by omega, by rw [n74, if_neg (by omega)]; exact b5, by rw [n74, if_neg (by omega)]; exact b6, b7⟩
                  · exact absurd g hx
              · rw [n74, if_neg (by omega)]; exact a0
              · rw [n74]
                split
                · exact hhj
                · exact a2 x h1 (by omega)
              · rw [n74, n74] at h5
                by_cases hx : x = w1
                · by_cases hz : z = w1
                  · omega
                  · rw [if_pos hx, if_neg hz] at h5
                    exact absurd h5.symm (hnew z h3 (by omega))
                · by_cases hz : z = w1
                  · rw [if_neg hx, if_pos hz] at h5
                    exact absurd h5 (hnew x h1 (by omega))
                  · rw [if_neg hx, if_neg hz] at h5
                    exact a3 x z h1 (by omega) h3 (by omega) h5
              · rw [n74]
                split
                · exact ⟨j, hj8.1, hj8.2, (bt_or1 hj8 hj8).mpr (Or.inr rfl), rfl⟩
                · obtain ⟨j', b1, b2, b3, b4⟩ := a4 z h1 (by omega)
                  exact ⟨j', b1, b2, (bt_or1 hj8 ⟨b1, b2⟩).mpr (Or.inl b3), b4⟩
              · rw [pc8_1 hj8 hS1j]; omega
              · rcases (bt_or1 hj8 ⟨h1, h2⟩).mp h3 with g | g
                · exact (g5 x h1 h2 g).imp id (fun g => by omega)
                · right; omega
              · by_cases hx : x = j
                · exact (bt_or1 hj8 ⟨h1, by omega⟩).mpr (Or.inr hx)
                · exact (bt_or1 hj8 ⟨h1, by omega⟩).mpr (Or.inl (g6 x h1 (by omega) h3))
            · -- there is always room
              exfalso
              obtain ⟨a0, a1, a2, a3, a4, a5⟩ := g3
              have hle : pc8 (iOr S1 (iShl 1 j)) ≤ 7 := by
                rw [← pcn_ne hroot]
                have hall : ∀ x : Int, 0 ≤ x → x < 8 → bt (iOr S1 (iShl 1 j)) x = true → m 72 x ≠ -1 := by
                  intro x h1 h2 h3
                  rcases (bt_or1 hj8 ⟨h1, h2⟩).mp h3 with g | g
                  · exact (g2 x h1 h2 g).1
                  · rw [g]; exact q3
                refine pcn_inj (f := m 72) (fun x h1 h2 h3 => ?_) (fun x z h1 h2 h3 h4 h5 h6 e => hv.2 x z h1 h2 h3 h4 e (hall x h1 h2 h5))
                rcases hfr x h1 h2 with g | g
                · exact absurd g (hall x h1 h2 h3)
                · refine ⟨g.1, g.2, ?_⟩
                  rw [decide_eq_true_eq]
                  intro e
                  exact hun ⟨x, h1, h2, e⟩
              rw [pc8_1 hj8 hS1j] at hle
              omega
        exact L51 8 S w 0 m1 (by omega) (by omega) hS (Int.le_refl _) f0 (fun _ _ _ => rfl) f1 f2 (fun _ _ _ h => h) (fun x _ _ h => Or.inl h) (fun x h1 h2 => by omega)
      exact hmat _ rfl
  refine gX2_grow (d + 1) 8 y root m Q ⟨by omega, L15 8 0 1 0 _ (by omega) (by omega) (by omega) mk_0 (fun q h1 h2 => up_ne h2) (fun j h1 h2 h3 => by rw [bt_0] at h3; cases h3) ⟨up_same, by omega, fun x h1 h2 => by rw [show x = 0 by omega, up_same]; exact hroot, fun x z _ _ _ _ _ => by omega, fun z h1 h2 => by omega, by rw [pc8_0]; rfl⟩ (fun x j h1 h2 => by omega)⟩

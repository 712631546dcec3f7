/-! item -/
theorem s_holds {d : Nat} {p a n : Int} {m : jM} {Q : Int → jM → Prop} (hs : 0 ≤ m p 1 ∧ m p 1 ≤ 40) (h : Q (bI (0 ≤ a ∧ 0 ≤ n ∧ a + n ≤ m p 1)) m) : jK (d + 1) zX7_holds [jO 7 p, jI a, jI n] m Q := by
  refine gX7_holds d p a n m Q ⟨fun g => ?_, fun g => ⟨fun g2 => ?_, fun g2 => ⟨fun g3 => ?_, fun g3 => ⟨fun g4 => ?_, fun g4 => ?_⟩⟩⟩⟩
  · rw [bI_f (by omega)] at h; exact h
  · rw [bI_f (by omega)] at h; exact h
  · rw [bI_f (by omega)] at h; exact h
  · rw [w32_id (by omega) (by omega)] at g4
    rw [bI_f (by omega)] at h; exact h
  · rw [w32_id (by omega) (by omega)] at g4
    rw [bI_t (by omega)] at h; exact h
theorem Inv_sh {m : jM} (h : Inv m) : iSh m := h.2.2.2.2.2.2.2.2.2.1
theorem c_item {d : Nat} {s i : Int} {m : jM} {Q : Int → jM → Prop} (h : Inv m) (hd : 20 ≤ d) (hB : ¬ ((0 ≤ s ∧ s ≤ 3) ∧ m 157 s ≠ -1 ∧ 0 ≤ i ∧ i < m 158 s) → Q (-4611686018427387904) m) (hQ : ((0 ≤ s ∧ s ≤ 3) ∧ m 157 s ≠ -1 ∧ 0 ≤ i ∧ i < m 158 s) → Q (m 159 (40 * s + i)) m) : jK d zX10_item [jO 10 0, jI s, jI i] m Q := by
  refine jK_deep (show 19 + 1 ≤ d by omega) (gX10_item 19 s i m Q (s_isSheetC ⟨fun g => ?_, fun g => ?_⟩))
  · rw [bI_0] at g; exact hB (fun x => g x.1)
  · rw [bI_0, Classical.not_not] at g
    obtain ⟨a1, a2, a3, a4, a5, a6⟩ := Inv_sh h s g.1 (by omega)
    rw [a1]
    refine ⟨by omega, fun w => hB (fun x => x.2.1 (by rw [a2]; exact w)), fun w => s_holds a5 ⟨fun w2 => ?_, fun w2 => ?_⟩⟩ <;> rw [bI_0] at w2
    · exact hB (fun x => w2 (by omega))
    · have w3 := Classical.not_not.mp w2
      have := hQ ⟨g, by rw [a2]; exact w, by omega, by omega⟩
      rw [a6 i (by omega) (by omega)] at this
      exact ⟨by omega, this⟩
theorem q_item {d : Nat} {s i : Int} {m : jM} {Q : Int → jM → Prop} (h : Inv m) (hd : 20 ≤ d) (hB : ¬ ((0 ≤ s ∧ s ≤ 3) ∧ m 157 s ≠ -1 ∧ 0 ≤ i ∧ i < m 158 s) → Q (-4611686018427387904) m) (hQ : ((0 ≤ s ∧ s ≤ 3) ∧ m 157 s ≠ -1 ∧ 0 ≤ i ∧ i < m 158 s) → Q (m 159 (40 * s + i)) m) : jK d zX11_item [jO 11 103, jI s, jI i] m Q := by
  refine jK_deep (show 19 + 1 ≤ d by omega) (gX11_item 19 s i m Q (s_isSheetR ⟨fun g => ?_, fun g => ?_⟩))
  · rw [bI_0] at g; exact hB (fun x => g x.1)
  · rw [bI_0, Classical.not_not] at g
    obtain ⟨a1, a2, a3, a4, a5, a6⟩ := Inv_sh h s g.1 (by omega)
    refine ⟨by omega, fun w => hB (fun x => x.2.1 w), fun w => ⟨by omega, s_in ⟨fun w2 => ?_, fun w2 => ?_⟩⟩⟩ <;> rw [a4, w32_id (by omega) (by omega), bI_0] at w2
    · exact hB (fun x => w2 (by omega))
    · have w3 := Classical.not_not.mp w2
      rw [w32_id (z := 40 * s) (by omega) (by omega), w32_id (by omega) (by omega)]
      exact ⟨by omega, hQ ⟨g, w, by omega, by omega⟩⟩
/-! what a sheet tells -/
def fX (m : jM) (s c : Int) : Int := m 159 (40 * s + pcn (rC (m 104)) c.toNat)
noncomputable def fJ (m : jM) (s c : Int) : Int := if rC (m 104) c = true then fX m s c else -1
noncomputable def fOk (m : jM) (s c : Int) : Prop := (0 ≤ fX m s c ∧ fX m s c ≤ 7) ∧ iO m (fX m s c) c = true ∧ ∀ c' : Int, 0 ≤ c' → c' < c → rC (m 104) c' = true → fX m s c' ≠ fX m s c
noncomputable def tls (m : jM) (s : Int) : Prop := m 158 s = pcn (rC (m 104)) 8 ∧ ∀ c : Int, 0 ≤ c → c < 8 → rC (m 104) c = true → fOk m s c
/-- the judges taken ahead of case c -/
def fM (m : jM) (s c x : Int) : Prop := mk8 x ∧ ∀ j : Int, 0 ≤ j → j < 8 → (bt x j = true ↔ ∃ c' : Int, 0 ≤ c' ∧ c' < c ∧ rC (m 104) c' = true ∧ fX m s c' = j)
theorem fM_0 (m : jM) (s : Int) : fM m s 0 0 := ⟨mk_0, fun j _ _ => by rw [bt_0]; exact ⟨(fun g => by cases g), fun ⟨c, c1, c2, _⟩ => by omega⟩⟩
theorem fM_in {m : jM} {s c x : Int} (c0 : 0 ≤ c) (h : fM m s c x) (hC : rC (m 104) c = true) (hr : 0 ≤ fX m s c ∧ fX m s c ≤ 7) : fM m s (c + 1) (iOr x (iShl 1 (fX m s c))) := by
  refine ⟨mk_or1 h.1 (by omega), fun j j1 j2 => ?_⟩
  rw [bt_or1 (by omega) ⟨j1, j2⟩, h.2 j j1 j2]
  constructor
  · rintro (⟨c', a, b, e, f⟩ | g)
    · exact ⟨c', a, by omega, e, f⟩
    · exact ⟨c, c0, by omega, hC, g.symm⟩
  · rintro ⟨c', a, b, e, f⟩
    by_cases hc : c' = c
    · right; rw [← hc]; exact f.symm
    · left; exact ⟨c', a, by omega, e, f⟩
theorem fM_gap {m : jM} {s a b x : Int} (hab : a ≤ b) (h : fM m s a x) (hg : ∀ c : Int, a ≤ c → c < b → rC (m 104) c = false) : fM m s b x := by
  refine ⟨h.1, fun j j1 j2 => ?_⟩
  rw [h.2 j j1 j2]
  constructor
  · rintro ⟨c', p, q, e, f⟩; exact ⟨c', p, by omega, e, f⟩
  · rintro ⟨c', p, q, e, f⟩
    by_cases hc : c' < a
    · exact ⟨c', p, hc, e, f⟩
    · rw [hg c' (by omega) q] at e; cases e
/-- the case of turn t, or 8 behind the last -/
def nxt (m : jM) (t : Int) : Int := 8 - (pLv 54 m t : Nat)
theorem nxt_in {m : jM} (hp : plL 54 m 8) {t : Int} (h0 : 0 ≤ t) (ht : t < m 54 1) : nxt m t = m 55 t ∧ (0 ≤ m 55 t ∧ m 55 t < 8) ∧ bt (m 54 0) (m 55 t) = true ∧ pcn (bt (m 54 0)) (m 55 t).toNat = t := by
  obtain ⟨a, b, c, e⟩ := hp.2.2.1 t h0 ht
  have a' : 0 ≤ m 55 t := a
  have b' : m 55 t < 8 := b
  refine ⟨?_, ⟨a', b'⟩, c, e⟩
  unfold nxt pLv
  rw [if_pos ht]
  show 8 - (((8 - m 55 t).toNat : Nat) : Int) = _
  omega
theorem nxt_end {m : jM} {t : Int} (ht : ¬ t < m 54 1) : nxt m t = 8 := by
  unfold nxt pLv
  rw [if_neg ht]
  rfl
/-- from one turn's case to the next one's the cases are OUT -/
theorem nxt_gap {m : jM} (hp : plL 54 m 8) {t : Int} (h0 : 0 ≤ t) (ht : t < m 54 1) : nxt m t + 1 ≤ nxt m (t + 1) ∧ nxt m (t + 1) ≤ 8 ∧ ∀ c : Int, nxt m t + 1 ≤ c → c < nxt m (t + 1) → bt (m 54 0) c = false := by
  obtain ⟨e1, e2, e3, e4⟩ := nxt_in hp h0 ht
  have hlow : pcn (bt (m 54 0)) (m 55 t + 1).toNat = t + 1 := by rw [pcn_s _ _ e2.1, e4, if_pos e3]
  obtain ⟨e, g1, g2⟩ := pLv_gap hp (t := t + 1) (c0 := m 55 t + 1) (by omega) (by omega) hlow (by omega) (by omega)
  rw [e1]
  unfold nxt
  refine ⟨by omega, by omega, fun c c1 c2 => g2 c (by omega) c2⟩
theorem nxt_gap0 {m : jM} (hp : plL 54 m 8) : 0 ≤ nxt m 0 ∧ ∀ c : Int, 0 ≤ c → c < nxt m 0 → bt (m 54 0) c = false := by
  obtain ⟨e, g1, g2⟩ := pLv_sk0 hp
  unfold nxt
  exact ⟨by omega, fun c c1 c2 => g2 c (by omega) c2⟩
/-- cases one after another -/
def fo (C : Int → Bool) (F : Int → Int → Int) : Nat → Int
  | 0 => 0
  | n + 1 => if C n = true then F n (fo C F n) else fo C F n
theorem fo_s (C : Int → Bool) (F : Int → Int → Int) {c : Int} (h : 0 ≤ c) : fo C F (c + 1).toNat = if C c = true then F c (fo C F c.toNat) else fo C F c.toNat := by
  obtain ⟨n, rfl⟩ : ∃ n : Nat, c = n := ⟨c.toNat, by omega⟩
  rw [show ((n : Int) + 1).toNat = n + 1 by omega, show ((n : Int)).toNat = n by omega]
  rfl
theorem fo_gap {C : Int → Bool} {F : Int → Int → Int} (k : Nat) : ∀ {a b : Int}, 0 ≤ a → a + k = b → (∀ c : Int, a ≤ c → c < b → C c = false) → fo C F b.toNat = fo C F a.toNat := by
  induction k with
  | zero => intro a b h0 hb _; rw [show b = a by omega]
  | succ k ih =>
    intro a b h0 hb hg
    rw [ih (a := a + 1) (by omega) (by omega) (fun c c1 c2 => hg c (by omega) c2), fo_s _ _ h0, if_neg (by rw [hg a (by omega) (by omega)]; decide)]
theorem pl_C {m : jM} (h : Inv m) (pl : iPl m) {c : Int} (c1 : 0 ≤ c) (c2 : c < 8) : bt (m 54 0) c = rC (m 104) c := pl.2.2.1.1 c c1 c2
theorem pl_n {m : jM} (pl : iPl m) : m 54 1 = pcn (rC (m 104)) 8 := by
  rw [show m 54 1 = pcn (bt (m 54 0)) 8 from pl.2.2.2.2.1.1]
  exact pcn_ext (fun c c1 c2 => pl.2.2.1.1 c c1 (by omega))
theorem pl_t {m : jM} (pl : iPl m) {c : Int} (c1 : c ≤ 8) : pcn (bt (m 54 0)) c.toNat = pcn (rC (m 104)) c.toNat := pcn_ext (fun j j1 j2 => pl.2.2.1.1 j j1 (by omega))
theorem s_follows {d : Nat} {s : Int} {m : jM} {Q : Int → jM → Prop} (h : Inv m) (pl : iPl m) (hs : 0 ≤ s ∧ s < 4) (h1 : tls m s → ∀ m', (∀ q, q ≠ 93 → m' q = m q) → (∀ c : Int, 0 ≤ c → c < 8 → m' 93 c = fJ m s c) → Q 1 m') (h0 : ¬ tls m s → ∀ m', (∀ q, q ≠ 93 → m' q = m q) → Q 0 m') : jK (d + 2) zX4_follows [jO 4 54, jO 7 (95 + 2 * s), jY 0 8 93] m Q := by
  obtain ⟨a1, a2, a3, a4, a5, a6⟩ := Inv_sh h s hs.1 hs.2
  have hp : plL 54 m 8 := pl.2.2.2.2.1
  have n8 := pcn_nn (rC (m 104)) 8
  have en := pl_n pl
  refine gX4_follows (d + 1) 54 (95 + 2 * s) 8 93 m Q (s_fillI (by omega) ?_)
  have f0 : ∀ q, q ≠ 93 → jFil m 93 8 (-1) q = m q := fun q hq => by funext j; unfold jFil; rw [if_neg (by omega)]
  rw [f0 (95 + 2 * s) (by omega), f0 54 (by omega)]
  refine ⟨fun g => ?_, fun g => h0 (fun x => g (by rw [en, ← x.1, a4])) _ f0⟩
  have loop : ∀ (k : Nat) (t x : Int) (mm : jM), 0 ≤ t → t + k = m 54 1 → (∀ q, q ≠ 93 → mm q = m q) → fM m s (nxt m t) x → (∀ c : Int, 0 ≤ c → c < 8 → mm 93 c = if c < nxt m t then fJ m s c else -1) → (∀ c : Int, 0 ≤ c → c < nxt m t → rC (m 104) c = true → fOk m s c) → aX4_follows_23 (d + 1) 54 (95 + 2 * s) 8 93 x t mm Q := by
    intro k
    induction k with
    | zero =>
      intro t x mm t0 tk f e1 e2 e3
      have e54 : mm 54 = m 54 := f 54 (by omega)
      have en8 : nxt m t = 8 := nxt_end (by omega)
      refine gX4_follows_23 (d + 1) 54 (95 + 2 * s) 8 93 x t mm Q ⟨fun q => by rw [e54] at q; omega, fun _ => h1 ⟨by rw [a4, g, en], fun c c1 c2 c3 => e3 c c1 (by omega) c3⟩ mm f (fun c c1 c2 => ?_)⟩
      rw [e2 c c1 c2, if_pos (by omega)]
    | succ k ih =>
      intro t x mm t0 tk f e1 e2 e3
      have e54 : mm 54 = m 54 := f 54 (by omega)
      have tl : t < m 54 1 := by omega
      obtain ⟨v1, v2, v3, v4⟩ := nxt_in hp t0 tl
      obtain ⟨w1, w2, w3⟩ := nxt_gap hp t0 tl
      have hC : rC (m 104) (m 55 t) = true := by rw [← pl_C h pl v2.1 v2.2]; exact v3
      have ex : mm (95 + 2 * s + 1) t = fX m s (m 55 t) := by
        rw [f _ (by omega)]
        unfold fX
        rw [← pl_t pl (show m 55 t ≤ 8 by omega), v4]
        exact (a6 t t0 (by omega)).symm
      have e55 : mm (54 + 1) t = m 55 t := by rw [f (54 + 1) (by omega)]; rfl
      have bad : ¬ fOk m s (m 55 t) → Q 0 mm := fun w => h0 (fun y => w (y.2 _ v2.1 v2.2 hC)) mm f
      refine gX4_follows_23 (d + 1) 54 (95 + 2 * s) 8 93 x t mm Q ⟨fun q => ?_, fun q => by rw [e54] at q; omega⟩
      rw [ex]
      refine ⟨by omega, fun g1 => bad (fun y => by have := y.1; omega), fun g1 => ⟨fun g2 => ?_, fun g2 => bad (fun y => by have := y.1; omega)⟩⟩
      rw [w32_id (by omega) (by omega)]
      have hbt : iAnd x (iShl 1 (fX m s (m 55 t))) = 0 ↔ ¬ bt x (fX m s (m 55 t)) = true := by
        constructor
        · intro y z
          have := bt_and x (iShl 1 (fX m s (m 55 t))) (fX m s (m 55 t))
          rw [y, bt_0, z, bt_one (by omega) (by omega)] at this
          simp at this
        · intro y
          refine mk_ext (mk_andl e1.1) mk_0 (fun j j1 j2 => ?_)
          rw [bt_and, bt_one (by omega) (by omega), bt_0]
          by_cases hj : j = fX m s (m 55 t)
          · rw [hj]; simp [y]
          · simp [hj]
      have hnew : (¬ bt x (fX m s (m 55 t)) = true) ↔ ∀ c' : Int, 0 ≤ c' → c' < m 55 t → rC (m 104) c' = true → fX m s c' ≠ fX m s (m 55 t) := by
        rw [e1.2 _ (by omega) (by omega), v1]
        constructor
        · intro y c' p1 p2 p3 p4; exact y ⟨c', p1, p2, p3, p4⟩
        · rintro y ⟨c', p1, p2, p3, p4⟩; exact y c' p1 p2 p3 p4
      refine ⟨fun g3 => ⟨by omega, ?_⟩, fun g3 => bad (fun y => g3 (hbt.mpr (hnew.mpr y.2.2)))⟩
      rw [e55]
      refine s_isOpen (p := 54) (by omega) v2 ?_
      have eo : pO (mm (54 + 3)) (fX m s (m 55 t)) (m 55 t) = iO m (fX m s (m 55 t)) (m 55 t) := by
        rw [f (54 + 3) (by omega)]
        exact pl.2.2.1.2.1 _ _ (by omega) (by omega) v2.1 v2.2
      refine ⟨fun g4 => ?_, fun g4 => ?_⟩ <;> rw [bI_0, eo] at g4
      · exact bad (fun y => g4 y.2.1)
      · rw [e55, w32_id (by omega) (by omega)]
        have ok : fOk m s (m 55 t) := ⟨by omega, Classical.not_not.mp g4, hnew.mp (hbt.mp g3)⟩
        refine ⟨by omega, by omega, ih (t + 1) _ _ (by omega) (by omega) (fun q hq => by rw [up_ne hq]; exact f q hq) ?_ (fun c c1 c2 => ?_) (fun c c1 c2 c3 => ?_)⟩
        · have := fM_in (x := x) v2.1 (by rw [v1] at e1; exact e1) hC (by omega)
          rw [v1] at w1 w3
          exact fM_gap w1 this (fun c p1 p2 => by rw [← pl_C h pl (by omega) (by omega)]; exact w3 c p1 p2)
        · rw [up_eq, e2 c c1 c2, v1]
          rw [v1] at w1 w3
          by_cases hc : c = m 55 t
          · rw [if_pos hc, if_pos (by omega), hc]
            unfold fJ
            rw [if_pos hC]
          · rw [if_neg hc]
            by_cases hc2 : c < m 55 t
            · rw [if_pos hc2, if_pos (by omega)]
            · rw [if_neg hc2]
              by_cases hc3 : c < nxt m (t + 1)
              · rw [if_pos hc3]
                unfold fJ
                rw [if_neg (by rw [← pl_C h pl c1 c2, w3 c (by omega) hc3]; decide)]
              · rw [if_neg hc3]
        · rw [v1] at w1 w3 e3
          by_cases hc : c = m 55 t
          · rw [hc]; exact ok
          · by_cases hc2 : c < m 55 t
            · exact e3 c c1 hc2 c3
            · exfalso
              have := w3 c (by omega) c2
              rw [pl_C h pl c1 (by omega), c3] at this
              cases this
  obtain ⟨g0, g1⟩ := nxt_gap0 hp
  have n08 : nxt m 0 ≤ 8 := by unfold nxt; omega
  have gC : ∀ c : Int, 0 ≤ c → c < nxt m 0 → rC (m 104) c = false := fun c c1 c2 => by rw [← pl_C h pl c1 (by omega)]; exact g1 c c1 c2
  refine loop (m 54 1).toNat 0 0 _ (by omega) (by omega) f0 (fM_gap g0 (fM_0 m s) gC) (fun c c1 c2 => ?_) (fun c c1 c2 c3 => by rw [gC c c1 c2] at c3; cases c3)
  have ef : jFil m 93 8 (-1) 93 c = -1 := by unfold jFil; rw [if_pos (by omega)]
  rw [ef]
  by_cases hc : c < nxt m 0
  · rw [if_pos hc]
    unfold fJ
    rw [if_neg (by rw [gC c c1 hc]; decide)]
  · rw [if_neg hc]
/-- the reference reads a sheet, behind costs() -/
theorem s_reads {d : Nat} {s : Int} {m m0 : jM} {Q : Int → jM → Prop} (h : Inv m0) (hr : ∀ q, q = 104 ∨ q = 157 ∨ q = 158 ∨ q = 159 → m q = m0 q) (ho : ∀ j c : Int, 0 ≤ j → j < 8 → 0 ≤ c → c < 8 → rO (m 128) j c = iO m0 j c) (hs : 0 ≤ s ∧ s < 4) (h1 : tls m0 s → ∀ m', (∀ q, q ≠ 131 → m' q = m q) → (∀ c : Int, 0 ≤ c → c < 8 → m' 131 c = fJ m0 s c) → Q 1 m') (h0 : ¬ tls m0 s → ∀ m', (∀ q, q ≠ 131 → m' q = m q) → Q 0 m') : jK (d + 4) zX11_reads [jO 11 103, jI s] m Q := by
  have e105 := hr 104 (by omega)
  refine gX11_reads (d + 3) s m Q ⟨by omega, s_casesMany ?_⟩
  rw [e105, hr 158 (by omega)]
  refine ⟨fun g => ?_, fun g => h0 (fun x => g x.1) m (fun _ _ => rfl)⟩
  have loop : ∀ (k : Nat) (c x y : Int) (mm : jM), 0 ≤ c → c + k = 8 → x = pcn (rC (m0 104)) c.toNat → (∀ q, q ≠ 131 → mm q = m q) → fM m0 s c y → (∀ c' : Int, 0 ≤ c' → c' < c → mm 131 c' = fJ m0 s c') → (∀ c' : Int, 0 ≤ c' → c' < c → rC (m0 104) c' = true → fOk m0 s c') → aX11_reads_22 (d + 3) s x y c mm Q := by
    intro k
    induction k with
    | zero =>
      intro c x y mm c0 ck hx f e1 e2 e3
      exact gX11_reads_22 (d + 3) s x y c mm Q ⟨fun q => by omega, fun _ => h1 ⟨g, fun c' p1 p2 p3 => e3 c' p1 (by omega) p3⟩ mm f (fun c' p1 p2 => e2 c' p1 (by omega))⟩
    | succ k ih =>
      intro c x y mm c0 ck hx f e1 e2 e3
      have xb := pcn_nn (rC (m0 104)) c.toNat
      have f' : ∀ q, q ≠ 131 → jUp mm 131 c (-1) q = m q := fun q hq => by rw [up_ne hq]; exact f q hq
      have eC : rC (jUp mm 131 c (-1) 104) c = rC (m0 104) c := by rw [f' 104 (by omega), e105]
      refine gX11_reads_22 (d + 3) s x y c mm Q ⟨fun q => ⟨by omega, s_isCase (by omega) ?_⟩, fun q => by omega⟩
      rw [eC]
      refine ⟨fun g1 => ?_, fun g1 => ?_⟩ <;> rw [bI_0] at g1
      · rw [w32_id (by omega) (by omega)]
        refine ih (c + 1) x y _ (by omega) (by omega) (by rw [pcn_s _ _ c0, if_neg g1, Int.add_zero]; exact hx) f' (fM_gap (by omega) e1 (fun c' p1 p2 => by rw [show c' = c by omega]; simpa using g1)) (fun c' p1 p2 => ?_) (fun c' p1 p2 p3 => ?_)
        · rw [up_eq]
          by_cases hc : c' = c
          · rw [if_pos hc, hc]; unfold fJ; rw [if_neg g1]
          · rw [if_neg hc]; exact e2 c' p1 (by omega)
        · by_cases hc : c' = c
          · rw [hc] at p3; exact absurd p3 g1
          · exact e3 c' p1 (by omega) p3
      · have hC := Classical.not_not.mp g1
        have hw : w32 (w32 (40 * s) + x) = 40 * s + x := by rw [w32_id (z := 40 * s) (by omega) (by omega), w32_id (by omega) (by omega)]
        have ex : jUp mm 131 c (-1) 159 (40 * s + x) = fX m0 s c := by rw [f' 159 (by omega), hr 159 (by omega), hx]; rfl
        rw [hw, ex]
        have bad : ¬ fOk m0 s c → Q 0 (jUp mm 131 c (-1)) := fun w => h0 (fun y => w (y.2 c c0 (by omega) hC)) _ f'
        refine ⟨by omega, s_in ⟨fun g2 => ?_, fun g2 => ?_⟩⟩ <;> rw [bI_0] at g2
        · exact bad (fun z => g2 z.1)
        · have g2' := Classical.not_not.mp g2
          rw [w32_id (z := fX m0 s c) (by omega) (by omega), bt_shr (by omega), w32_id (z := 8 * fX m0 s c) (by omega) (by omega), w32_id (z := 8 * fX m0 s c + c) (by omega) (by omega)]
          have hnew : (¬ bt y (fX m0 s c) = true) ↔ ∀ c' : Int, 0 ≤ c' → c' < c → rC (m0 104) c' = true → fX m0 s c' ≠ fX m0 s c := by
            rw [e1.2 _ (by omega) (by omega)]
            constructor
            · intro z c' p1 p2 p3 p4; exact z ⟨c', p1, p2, p3, p4⟩
            · rintro z ⟨c', p1, p2, p3, p4⟩; exact z c' p1 p2 p3 p4
          have eo := ho (fX m0 s c) c (by omega) (by omega) c0 (by omega)
          unfold rO at eo
          rw [← f' 128 (by omega)] at eo
          refine ⟨fun g3 => bad (fun z => (hnew.mpr z.2.2) g3), fun g3 => ⟨by omega, fun g4 => bad (fun z => ?_), fun g4 => ⟨by omega, ?_⟩⟩⟩
          · have := z.2.1
            rw [← eo, g4] at this
            simp at this
          · have op : iO m0 (fX m0 s c) c = true := by rw [← eo]; simp [g4]
            rw [w32_id (z := x + 1) (by omega) (by omega), w32_id (by omega) (by omega)]
            refine ih (c + 1) _ _ _ (by omega) (by omega) (by rw [pcn_s _ _ c0, if_pos hC, ← hx]) (fun q hq => by rw [up_ne hq]; exact f' q hq) (fM_in c0 e1 hC g2') (fun c' p1 p2 => ?_) (fun c' p1 p2 p3 => ?_)
            · rw [up_eq]
              by_cases hc : c' = c
              · rw [if_pos hc, hc]; unfold fJ; rw [if_pos hC]
              · rw [if_neg hc, up_oth hc]; exact e2 c' p1 (by omega)
            · by_cases hc : c' = c
              · rw [hc]; exact ⟨g2', op, hnew.mp g3⟩
              · exact e3 c' p1 (by omega) p3
  exact loop 8 0 0 0 m (by omega) (by omega) rfl (fun _ _ => rfl) (fM_0 m0 s) (fun c' p1 p2 => by omega) (fun c' p1 p2 => by omega)

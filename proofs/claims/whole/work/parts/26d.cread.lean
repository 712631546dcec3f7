/-! the class's read -/
def cRl (G : Int → Int → Int → Int) (m : jM) (p r : Int) : Prop := m p 0 = G r 0 0 ∧ (0 ≤ m p 1 ∧ m p 1 ≤ 40) ∧ ((G r 0 0 = 0 ∧ m p 1 = 0) ∨ (G r 0 0 ≠ 0 ∧ cS (G r) (m (p + 1)) (m (p + 2)) (m (p + 3)) 100 0 (m p 1) (G r 1 0) ∧ wf G 100 r (G r 1 0)))
def gNm (G : Int → Int → Int → Int) (r q : Int) : Prop := ∃ k : Int, 0 ≤ k ∧ k < G r 0 0 ∧ G r 2 k = 2 ∧ G r 3 k = q
def gRk (G : Int → Int → Int → Int) (rk : Int → Int) : Prop := (∀ r : Int, 0 ≤ r → r < 4 → 0 ≤ rk r ∧ rk r ≤ 3) ∧ ∀ r q : Int, 0 ≤ r → r < 4 → 0 ≤ q → q < 4 → gNm G r q → rk q < rk r
def gVal (G : Int → Int → Int → Int) (t : Int → Int) (j c r : Int) : vR := if G r 0 0 = 0 then vOk 0 else ev G t j c 100 r (G r 1 0)
def cFr (m m' : jM) : Prop := ∀ q, q ≠ 51 → q ≠ 52 → q ≠ 53 → m' q = m q
def cFl (x : vR) (dp : Int) (m0 m : jM) : Prop := m 51 2 = x.2.1 ∧ m 51 3 = x.2.2.1 ∧ m 51 4 = dp + x.2.2.2.1 ∧ m 51 5 = x.2.2.2.2.1 ∧ m 51 6 = if x.2.2.2.1 = 1 then (if 0 < dp then m0 53 (dp - 1) else -1) else x.2.2.2.2.2
theorem ev_a1 (G : Int → Int → Int → Int) (t : Int → Int) (j c : Int) (n : Nat) : ∀ r k : Int, (ev G t j c n r k).2.1 ≠ 0 → (ev G t j c n r k).2.2.2.1 = 1 → (ev G t j c n r k).2.2.2.2.2 = -1 ∧ (ev G t j c n r k).2.2.2.2.1 = r := by
  have hj : ∀ op a b place r, (vJn op a b place r).2.1 ≠ 0 → (vJn op a b place r).2.2.2.2.2 = -1 ∧ (vJn op a b place r).2.2.2.2.1 = r := by
    intro op a b place r
    have h1 : ∀ v, (vLm v place r).2.1 ≠ 0 → (vLm v place r).2.2.2.2.2 = -1 ∧ (vLm v place r).2.2.2.2.1 = r := by
      intro v h
      unfold vLm at h ⊢
      split
      · rename_i g; rw [if_pos g] at h; exact absurd rfl h
      · exact ⟨rfl, rfl⟩
    unfold vJn
    split
    · exact h1 _
    split
    · exact h1 _
    split
    · exact h1 _
    split
    · intro h; exact absurd rfl h
    split
    · intro h; exact absurd rfl h
    split
    · intro _; exact ⟨rfl, rfl⟩
    split
    · intro h; exact absurd rfl h
    · intro h; exact absurd rfl h
  induction n with
  | zero => intro r k h; exact absurd rfl h
  | succ n ih =>
    intro r k
    rw [ev_S]
    unfold evS
    split
    · intro h; exact absurd rfl h
    split
    · intro h; exact absurd rfl h
    split
    · have hc1 : (if G (G r 3 k) 0 0 = 0 then vOk 0 else ev G t j c n (G r 3 k) (G (G r 3 k) 1 0)).2.1 ≠ 0 → 1 ≤ (if G (G r 3 k) 0 0 = 0 then vOk 0 else ev G t j c n (G r 3 k) (G (G r 3 k) 1 0)).2.2.2.1 := by
        split
        · intro h; exact absurd rfl h
        · exact ev_c1 G t j c n _ _
      generalize (if G (G r 3 k) 0 0 = 0 then vOk 0 else ev G t j c n (G r 3 k) (G (G r 3 k) 1 0)) = x at *
      intro h h2
      unfold vNm at h h2
      by_cases g : x.2.1 = 0
      · rw [if_pos g] at h; exact absurd g h
      · rw [if_neg g] at h2
        have h3 : x.2.2.2.1 + 1 = 1 := h2
        have := hc1 g
        omega
    split
    · exact ih _ _
    split
    · intro h; exact absurd rfl h
    split
    · intro h; exact absurd rfl h
    split
    · exact ih _ _
    split
    · split
      · exact ih _ _
      · exact ih _ _
    · intro h _; exact hj _ _ _ _ _ h
theorem s_leaf {d : Nat} {op arg p dp : Int} {m : jM} {Q : Int → jM → Prop} (hp : 0 ≤ p ∧ p < 64) (ho : op = 1 ∨ ((op = 2 ∨ op = 3) ∧ 0 ≤ arg ∧ arg < 3)) (h : Q (if op = 1 then arg else if op = 2 then m 2 (3 * (p / 8) + arg) else m 2 (3 * (8 + p % 8) + arg)) m) : jK (d + 1) zX9_operand [jO 9 51, jO 0 1, jI op, jI arg, jI p, jI dp] m Q := by
  have ed : iDiv p 8 = p / 8 := iDiv_nn hp.1 (by omega) (by omega)
  have er : iRem p 8 = p % 8 := iRem_nn hp.1
  refine gX9_operand d op arg p dp m Q ⟨fun q => by omega, fun _ => ⟨fun q => ?_, fun q => ⟨fun q2 => ⟨by omega, ?_, ?_⟩, fun q2 => ⟨by omega, ?_, ?_⟩⟩⟩⟩
  · rw [if_pos q] at h; exact h
  · rw [ed, w32_id (z := p / 8 * 3) (by omega) (by omega), w32_id (by omega) (by omega)]; omega
  · rw [if_neg q, if_pos q2] at h
    rw [ed, w32_id (z := p / 8 * 3) (by omega) (by omega), w32_id (by omega) (by omega), show p / 8 * 3 + arg = 3 * (p / 8) + arg by omega]
    exact h
  · rw [er, w32_id (z := 8 + p % 8) (by omega) (by omega), w32_id (z := (8 + p % 8) * 3) (by omega) (by omega), w32_id (by omega) (by omega)]; omega
  · rw [if_neg q, if_neg q2] at h
    rw [er, w32_id (z := 8 + p % 8) (by omega) (by omega), w32_id (z := (8 + p % 8) * 3) (by omega) (by omega), w32_id (by omega) (by omega), show (8 + p % 8) * 3 + arg = 3 * (8 + p % 8) + arg by omega]
    exact h
theorem s_abs {d : Nat} {a : Int} {m : jM} {Q : Int → jM → Prop} (ha : in64 (-a)) (h : Q (if a < 0 then -a else a) m) : jK (d + 1) zJ9_abs_067f4 [jL a] m Q := by
  unfold in64 at ha
  refine gJ9_abs_067f4 d a m Q ⟨fun q => ?_, fun q => ?_⟩
  · rw [if_pos q] at h; rw [w64_id (by omega) (by omega)]; exact h
  · rw [if_neg q] at h; exact h
theorem s_fail {d : Nat} {how pl dp r : Int} {m : jM} {Q : Int → jM → Prop} (hdp : 0 ≤ dp ∧ dp < 4) (hr : m 53 dp = r) (h : ∀ m', cFr m m' → (∀ i, m' 52 i = m 52 i) → (∀ i, m' 53 i = m 53 i) → cFl (vFl how pl r) dp m m' → Q (-4611686018427387904) m') : jK (d + 1) zX9_fail [jO 9 51, jI how, jI pl, jI dp] m Q := by
  have e1 : w32 (dp + 1) = dp + 1 := w32_id (by omega) (by omega)
  have e2 : w32 (dp - 1) = dp - 1 := w32_id (by omega) (by omega)
  have key : ∀ z, z = (if 0 < dp then m 53 (dp - 1) else -1) → Q (-4611686018427387904) (jUp (jUp (jUp (jUp (jUp m 51 2 how) 51 3 pl) 51 4 (dp + 1)) 51 5 (m 53 dp)) 51 6 z) := by
    intro z hz
    refine h _ (fun q h1 h2 h3 => by rw [up_ne h1, up_ne h1, up_ne h1, up_ne h1, up_ne h1]) (fun i => by rw [up_ne (by omega), up_ne (by omega), up_ne (by omega), up_ne (by omega), up_ne (by omega)]) (fun i => by rw [up_ne (by omega), up_ne (by omega), up_ne (by omega), up_ne (by omega), up_ne (by omega)]) ⟨?_, ?_, ?_, ?_, ?_⟩
    · rw [up_oth (by omega), up_oth (by omega), up_oth (by omega), up_oth (by omega), up_same]; rfl
    · rw [up_oth (by omega), up_oth (by omega), up_oth (by omega), up_same]; rfl
    · rw [up_oth (by omega), up_oth (by omega), up_same]; rfl
    · rw [up_oth (by omega), up_same, hr]; rfl
    · rw [up_same, hz]; rfl
  refine gX9_fail d how pl dp m Q ⟨hdp, fun q => ⟨by rw [e2]; omega, ?_⟩, fun q => ?_⟩
  · simp only [up_ne (show ¬ (53 : Int) = 51 by omega)]
    rw [e1, e2]
    exact key _ (by rw [if_pos q])
  · simp only [up_ne (show ¬ (53 : Int) = 51 by omega)]
    rw [e1]
    exact key _ (by rw [if_neg q])
theorem cFl_m {x : vR} {dp : Int} {m m1 m2 : jM} (h : ∀ i, i ≤ dp → m1 53 i = m 53 i) (hc : cFl x dp m1 m2) : cFl x dp m m2 := by
  unfold cFl at hc ⊢
  rw [h (dp - 1) (by omega)] at hc
  exact hc
theorem cFr_tr {m m1 m2 : jM} (h : cFr m m1) (h' : cFr m1 m2) : cFr m m2 := fun q a b c => by rw [h' q a b c, h q a b c]
theorem s_read (d : Nat) {G : Int → Int → Int → Int} {rk : Int → Int} (hRk : gRk G rk) (R : Nat) : ∀ {r p dp : Int} {m : jM} {Q : Int → jM → Prop}, 0 ≤ r ∧ r < 4 → 0 ≤ p ∧ p < 64 → 0 ≤ dp → dp + R ≤ 3 → rk r ≤ R →
    (∀ q : Int, 0 ≤ q → q < 4 → (1 ≤ m 5 q ∧ m 5 q < 48) ∧ cRl G m (m 5 q) q ∧ G q 0 0 ≤ 24) → tbd (m 2) →
    (∀ (m' : jM), (gVal G (m 2) (p / 8) (p % 8) r).2.1 = 0 → cFr m m' → (∀ i, i < 40 * dp → m' 52 i = m 52 i) → (∀ i, i < dp → m' 53 i = m 53 i) → Q (gVal G (m 2) (p / 8) (p % 8) r).1 m') →
    (∀ (m' : jM), (gVal G (m 2) (p / 8) (p % 8) r).2.1 ≠ 0 → cFr m m' → (∀ i, i < 40 * dp → m' 52 i = m 52 i) → (∀ i, i < dp → m' 53 i = m 53 i) → cFl (gVal G (m 2) (p / 8) (p % 8) r) dp m m' → Q (-4611686018427387904) m') →
    jK (d + 2 * R + 3) zX9_read [jO 9 51, jO 0 1, jI r, jI p, jI dp] m Q := by
  induction R using Nat.strongRecOn with
  | ind R ihR =>
    intro r p dp m Q hr hp hdp hdR hrk hall ht hOK hFL
    obtain ⟨hP, hcell, hparts⟩ := hall r hr.1 hr.2
    have hj8 : 0 ≤ p / 8 ∧ p / 8 < 8 := by omega
    have hc8 : 0 ≤ p % 8 ∧ p % 8 < 8 := by omega
    generalize hPd : m 5 r = P at *
    obtain ⟨hparts0, hsteps, hbody⟩ := hcell
    generalize hS : m P 1 = S at *
    have hdp3 : 0 ≤ dp ∧ dp < 4 := by omega
    -- one step of each kind
    have kk : ∀ m1 : jM, cFr m m1 → m1 P 1 = S ∧ m1 (P + 1) = m (P + 1) ∧ m1 (P + 2) = m (P + 2) ∧ m1 (P + 3) = m (P + 3) ∧ m1 2 = m 2 ∧ m1 5 = m 5 := fun m1 hf => ⟨by rw [hf P (by omega) (by omega) (by omega)]; exact hS, hf _ (by omega) (by omega) (by omega), hf _ (by omega) (by omega) (by omega), hf _ (by omega) (by omega) (by omega), hf _ (by omega) (by omega) (by omega), hf _ (by omega) (by omega) (by omega)⟩
    have stpLeaf : ∀ (a top cnt v : Int) (m1 : jM), cFr m m1 → 0 ≤ a → a < S → 0 ≤ cnt → cnt ≤ a → 40 * dp ≤ top → top < 160 → (m (P + 1) a = 1 ∨ ((m (P + 1) a = 2 ∨ m (P + 1) a = 3) ∧ 0 ≤ m (P + 2) a ∧ m (P + 2) a < 3)) →
        v = (if m (P + 1) a = 1 then m (P + 2) a else if m (P + 1) a = 2 then m 2 (3 * (p / 8) + m (P + 2) a) else m 2 (3 * (8 + p % 8) + m (P + 2) a)) → v ≠ -4611686018427387904 → aX9_read_51 (d + 2 * R + 2) p dp P (40 * dp) (top + 1) (a + 1) (cnt + 1) (jUp m1 52 top v) Q → aX9_read_51 (d + 2 * R + 2) p dp P (40 * dp) top a cnt m1 Q := by
      intro a top cnt v m1 hf h1 h2 h3 h4 h5 h6 ho hv hne hk
      obtain ⟨k1, k2, k3, k4, k5, k6⟩ := kk m1 hf
      have e1 : w32 (top + 1) = top + 1 := w32_id (by omega) (by omega)
      have e2 : w32 (a + 1) = a + 1 := w32_id (by omega) (by omega)
      have e3 : w32 (cnt + 1) = cnt + 1 := w32_id (by omega) (by omega)
      have ho4 : ¬ 4 < m1 (P + 1) a := by rw [k2]; omega
      have ho5 : ¬ m1 (P + 1) a = 4 := by rw [k2]; omega
      refine gX9_read_51 (d + 2 * R + 2) p dp P (40 * dp) top a cnt m1 Q ⟨fun _ => ⟨fun _ => ⟨by omega, by omega, by omega, fun q => absurd q ho4, fun _ => jK_deep (show (d + 2 * R + 1) + 1 ≤ d + 2 * R + 2 by omega) (s_leaf hp (by rw [k2, k3]; exact ho) ?_)⟩, fun q => by rw [k1] at q; omega⟩, fun q => by rw [k1] at q; omega⟩
      rw [k2, k3, k5, ← hv]
      refine ⟨by omega, by omega, fun q => ?_, fun _ => ?_⟩
      · rw [up_same] at q; exact absurd q hne
      · rw [e1, e2, e3]; exact hk
    have stpNeg : ∀ (a top cnt : Int) (m1 : jM), cFr m m1 → 0 ≤ a → a < S → 0 ≤ cnt → cnt ≤ a → 1 ≤ top → top ≤ 160 → m (P + 1) a = 5 → bnd (m1 52 (top - 1)) → aX9_read_51 (d + 2 * R + 2) p dp P (40 * dp) top (a + 1) (cnt + 1) (jUp m1 52 (top - 1) (-(m1 52 (top - 1)))) Q → aX9_read_51 (d + 2 * R + 2) p dp P (40 * dp) top a cnt m1 Q := by
      intro a top cnt m1 hf h1 h2 h3 h4 h5 h6 ho hb hk
      obtain ⟨k1, k2, k3, k4, k5, k6⟩ := kk m1 hf
      have e1 : w32 (top - 1) = top - 1 := w32_id (by omega) (by omega)
      have e2 : w32 (a + 1) = a + 1 := w32_id (by omega) (by omega)
      have e3 : w32 (cnt + 1) = cnt + 1 := w32_id (by omega) (by omega)
      rw [← k2] at ho
      unfold bnd at hb
      refine gX9_read_51 (d + 2 * R + 2) p dp P (40 * dp) top a cnt m1 Q ⟨fun _ => ⟨fun _ => ⟨by omega, by omega, by omega, fun _ => ⟨fun q => by omega, fun _ => ⟨fun _ => ⟨by omega, by omega, ?_⟩, fun q => by omega⟩⟩, fun q => by omega⟩, fun q => by rw [k1] at q; omega⟩, fun q => by rw [k1] at q; omega⟩
      rw [e1, e2, e3, w64_id (by omega) (by omega)]
      exact hk
    have stpAbs : ∀ (a top cnt : Int) (m1 : jM), cFr m m1 → 0 ≤ a → a < S → 0 ≤ cnt → cnt ≤ a → 1 ≤ top → top ≤ 160 → m (P + 1) a = 6 → bnd (m1 52 (top - 1)) → aX9_read_51 (d + 2 * R + 2) p dp P (40 * dp) top (a + 1) (cnt + 1) (jUp m1 52 (top - 1) (if m1 52 (top - 1) < 0 then -(m1 52 (top - 1)) else m1 52 (top - 1))) Q → aX9_read_51 (d + 2 * R + 2) p dp P (40 * dp) top a cnt m1 Q := by
      intro a top cnt m1 hf h1 h2 h3 h4 h5 h6 ho hb hk
      obtain ⟨k1, k2, k3, k4, k5, k6⟩ := kk m1 hf
      have e1 : w32 (top - 1) = top - 1 := w32_id (by omega) (by omega)
      have e2 : w32 (a + 1) = a + 1 := w32_id (by omega) (by omega)
      have e3 : w32 (cnt + 1) = cnt + 1 := w32_id (by omega) (by omega)
      rw [← k2] at ho
      unfold bnd at hb
      refine gX9_read_51 (d + 2 * R + 2) p dp P (40 * dp) top a cnt m1 Q ⟨fun _ => ⟨fun _ => ⟨by omega, by omega, by omega, fun _ => ⟨fun q => by omega, fun _ => ⟨fun q => by omega, fun _ => ⟨fun _ => ⟨by omega, ?_⟩, fun q => by omega⟩⟩⟩, fun q => by omega⟩, fun q => by rw [k1] at q; omega⟩, fun q => by rw [k1] at q; omega⟩
      rw [e1]
      refine jK_deep (show (d + 2 * R + 1) + 1 ≤ d + 2 * R + 2 by omega) (s_abs (by unfold in64; omega) ⟨by omega, ?_⟩)
      rw [e2, e3]
      exact hk
    have stpLeap : ∀ (a top cnt b : Int) (m1 : jM), cFr m m1 → 0 ≤ a → a < S → 0 ≤ cnt → cnt ≤ a → m (P + 1) a = 15 → m (P + 2) a = b → aX9_read_51 (d + 2 * R + 2) p dp P (40 * dp) top b (cnt + 1) m1 Q → aX9_read_51 (d + 2 * R + 2) p dp P (40 * dp) top a cnt m1 Q := by
      intro a top cnt b m1 hf h1 h2 h3 h4 ho hb hk
      obtain ⟨k1, k2, k3, k4, k5, k6⟩ := kk m1 hf
      have e3 : w32 (cnt + 1) = cnt + 1 := w32_id (by omega) (by omega)
      rw [← k2] at ho
      refine gX9_read_51 (d + 2 * R + 2) p dp P (40 * dp) top a cnt m1 Q ⟨fun _ => ⟨fun _ => ⟨by omega, by omega, by omega, fun _ => ⟨fun _ => ?_, fun q => by omega⟩, fun q => by omega⟩, fun q => by rw [k1] at q; omega⟩, fun q => by rw [k1] at q; omega⟩
      rw [e3, k3, hb]
      exact hk
    have stpLess : ∀ (a top cnt z : Int) (m1 : jM), cFr m m1 → 0 ≤ a → a < S → 0 ≤ cnt → cnt ≤ a → 2 ≤ top → top ≤ 160 → m (P + 1) a = 14 → m (P + 2) a = z → aX9_read_51 (d + 2 * R + 2) p dp P (40 * dp) (top - 2) (if m1 52 (top - 2) < m1 52 (top - 1) then a + 1 else z) (cnt + 1) m1 Q → aX9_read_51 (d + 2 * R + 2) p dp P (40 * dp) top a cnt m1 Q := by
      intro a top cnt z m1 hf h1 h2 h3 h4 h5 h6 ho hz hk
      obtain ⟨k1, k2, k3, k4, k5, k6⟩ := kk m1 hf
      have e0 : w32 (top + (-2)) = top - 2 := by rw [w32_id (by omega) (by omega)]; omega
      have e1 : w32 (top - 2 + 1) = top - 1 := by rw [w32_id (by omega) (by omega)]; omega
      have e2 : w32 (a + 1) = a + 1 := w32_id (by omega) (by omega)
      have e3 : w32 (cnt + 1) = cnt + 1 := w32_id (by omega) (by omega)
      rw [← k2] at ho
      refine gX9_read_51 (d + 2 * R + 2) p dp P (40 * dp) top a cnt m1 Q ⟨fun _ => ⟨fun _ => ⟨by omega, by omega, by omega, fun _ => ⟨fun q => by omega, fun _ => ⟨fun q => by omega, fun _ => ⟨fun q => by omega, fun _ => ⟨fun _ => ⟨by omega, by rw [e0]; omega, fun q => ?_, fun q => ?_⟩, fun q => by omega⟩⟩⟩⟩, fun q => by omega⟩, fun q => by rw [k1] at q; omega⟩, fun q => by rw [k1] at q; omega⟩ <;> rw [e0, e1] at q <;> rw [e0, e3]
      · rw [if_pos q] at hk; rw [e2]; exact hk
      · rw [if_neg q] at hk; rw [k3, hz]; exact hk
    have stpJoin : ∀ (a top cnt op pl : Int) (m1 : jM), cFr m m1 → 0 ≤ a → a < S → 0 ≤ cnt → cnt ≤ a → 2 ≤ top → top ≤ 160 → ((3 ≤ op ∧ op ≤ 5) ∨ (8 ≤ op ∧ op ≤ 11)) → m (P + 1) a = cop op → m (P + 3) a = pl → bnd (m1 52 (top - 2)) → bnd (m1 52 (top - 1)) → m1 53 dp = r →
        ((vJn op (m1 52 (top - 2)) (m1 52 (top - 1)) pl r).2.1 = 0 → aX9_read_51 (d + 2 * R + 2) p dp P (40 * dp) (top - 1) (a + 1) (cnt + 1) (jUp m1 52 (top - 2) (vJn op (m1 52 (top - 2)) (m1 52 (top - 1)) pl r).1) Q) →
        ((vJn op (m1 52 (top - 2)) (m1 52 (top - 1)) pl r).2.1 ≠ 0 → ∀ m', cFr m1 m' → (∀ i, m' 52 i = m1 52 i) → (∀ i, m' 53 i = m1 53 i) → cFl (vJn op (m1 52 (top - 2)) (m1 52 (top - 1)) pl r) dp m1 m' → Q (-4611686018427387904) m') → aX9_read_51 (d + 2 * R + 2) p dp P (40 * dp) top a cnt m1 Q := by
      intro a top cnt op pl m1 hf h1 h2 h3 h4 h5 h6 hop ho hpl hb1 hb2 hr53 hk hkf
      obtain ⟨k1, k2, k3, k4, k5, k6⟩ := kk m1 hf
      have e0 : w32 (top + (-1)) = top - 1 := by rw [w32_id (by omega) (by omega)]; omega
      have e1 : w32 (top - 1 - 1) = top - 2 := by rw [w32_id (by omega) (by omega)]; omega
      have e2 : w32 (a + 1) = a + 1 := w32_id (by omega) (by omega)
      have e3 : w32 (cnt + 1) = cnt + 1 := w32_id (by omega) (by omega)
      have hcop : cop op = if op ≤ 5 then op + 4 else op + 2 := rfl
      have hcr : 7 ≤ cop op ∧ cop op ≤ 13 := by rw [hcop]; split <;> omega
      have ho' : m1 (P + 1) a = cop op := by rw [k2]; exact ho
      have hraw := raw_ok (op := op) (place := pl) (r := r) hb1 hb2
      refine gX9_read_51 (d + 2 * R + 2) p dp P (40 * dp) top a cnt m1 Q ⟨fun _ => ⟨fun _ => ⟨by omega, by omega, by omega, fun _ => ⟨fun q => by omega, fun _ => ⟨fun q => by omega, fun _ => ⟨fun q => by omega, fun _ => ⟨fun q => by omega, fun _ => ⟨by rw [e0, e1]; omega, by omega, ?_⟩⟩⟩⟩⟩, fun q => by omega⟩, fun q => by rw [k1] at q; omega⟩, fun q => by rw [k1] at q; omega⟩
      rw [e0, e1, ho', e2, e3]
      refine jK_deep (show (d + R) + 2 ≤ d + 2 * R + 2 by omega) (s_join hop hb1 hb2 ?_)
      rw [k4, hpl]
      have bad : ¬ bnd (rawj op (m1 52 (top - 2)) (m1 52 (top - 1))) → aX9_read_312 (d + 2 * R + 2) dp pl (rawj op (m1 52 (top - 2)) (m1 52 (top - 1))) m1 Q := by
        intro hnb
        have hne : (vJn op (m1 52 (top - 2)) (m1 52 (top - 1)) pl r).2.1 ≠ 0 := fun g => hnb (hraw.1 g).1
        obtain ⟨_, hv⟩ := hraw.2 hne
        have hkf := hkf hne
        rw [hv] at hkf
        refine gX9_read_312 (d + 2 * R + 2) dp pl _ m1 Q ⟨fun g => ?_, fun g => ?_⟩
        · rw [if_pos g] at hkf
          exact jK_deep (show (d + 2 * R + 1) + 1 ≤ d + 2 * R + 2 by omega) (s_fail hdp3 hr53 hkf)
        · rw [if_neg g] at hkf
          exact jK_deep (show (d + 2 * R + 1) + 1 ≤ d + 2 * R + 2 by omega) (s_fail hdp3 hr53 hkf)
      refine ⟨fun g => bad (by unfold bnd; omega), fun g => ⟨fun g2 => bad (by unfold bnd; omega), fun g2 => ⟨by omega, ?_⟩⟩⟩
      have hz : (vJn op (m1 52 (top - 2)) (m1 52 (top - 1)) pl r).2.1 = 0 := by
        apply Classical.byContradiction
        intro hne
        exact (hraw.2 hne).1 (by unfold bnd; omega)
      rw [(hraw.1 hz).2]
      exact hk hz
    have seg : ∀ (n' n : Nat) (a b k top cnt : Int) (m1 : jM), cS (G r) (m (P + 1)) (m (P + 2)) (m (P + 3)) n' a b k → wf G n r k → n ≤ 100 → 0 ≤ a → b ≤ S → cFr m m1 → m1 53 dp = r → 40 * dp ≤ top → top - 40 * dp ≤ a → 0 ≤ cnt → cnt ≤ a →
        ((ev G (m 2) (p / 8) (p % 8) n r k).2.1 = 0 → ∀ (m2 : jM) (cnt' : Int), cFr m m2 → (∀ i, i < top → m2 52 i = m1 52 i) → m2 52 top = (ev G (m 2) (p / 8) (p % 8) n r k).1 → (∀ i, i ≤ dp → m2 53 i = m1 53 i) → 0 ≤ cnt' → cnt' ≤ b → aX9_read_51 (d + 2 * R + 2) p dp P (40 * dp) (top + 1) b cnt' m2 Q) →
        ((ev G (m 2) (p / 8) (p % 8) n r k).2.1 ≠ 0 → ∀ m2 : jM, cFr m m2 → (∀ i, i < 40 * dp → m2 52 i = m1 52 i) → (∀ i, i ≤ dp → m2 53 i = m1 53 i) → cFl (ev G (m 2) (p / 8) (p % 8) n r k) dp m1 m2 → Q (-4611686018427387904) m2) →
        aX9_read_51 (d + 2 * R + 2) p dp P (40 * dp) top a cnt m1 Q := by
      intro n'
      induction n' with
      | zero => intro n a b k top cnt m1 h; exact h.elim
      | succ n' ih =>
        intro n a b k top cnt m1 hcs hw hn ha hb hf h53 htop htop2 hcnt hcnt2 hok hfl
        have hab := cS_lt (n' + 1) hcs
        cases n with
        | zero => exact hw.elim
        | succ n =>
          obtain ⟨hk24, hw⟩ := hw
          have hlt160 : top < 160 := by omega
          rw [ev_S] at hok hfl
          unfold evS at hok hfl
          generalize hEn : ev G (m 2) (p / 8) (p % 8) n = En at *
          have bE : ∀ {r k}, wf G n r k → bnd (En r k).1 := fun {r k} h => by rw [← hEn]; exact ev_b ht hj8 hc8 n h
          rcases hcs with ⟨o, hbe, c1, c2⟩ | ⟨o, hbe, c1⟩ | ⟨o, hbe, c1, c2⟩ | ⟨o, c1⟩ | ⟨o, c1, c2⟩ | ⟨o, z, c1, c2, c3, c4⟩ | ⟨o, x, y, z, c1, c2, c3, c4, c5, c6, c7, c8⟩
          · -- a number
            rw [if_pos o] at hok
            have hv : 0 ≤ G r 3 k ∧ G r 3 k ≤ 9999 := by
              rcases hw with w | w | w | w | w | w
              · exact w.2
              · omega
              · omega
              · omega
              · omega
              · omega
            subst hbe
            refine stpLeaf a top cnt (G r 3 k) m1 hf ha (by omega) hcnt hcnt2 htop hlt160 (Or.inl c1) (by rw [if_pos c1, c2]) (by omega) (hok rfl _ (cnt + 1) (fun q h1 h2 h3 => by rw [up_ne h2]; exact hf q h1 h2 h3) (fun i hi => up_oth (by omega)) up_same (fun i _ => by rw [up_ne (by omega)]) (by omega) (by omega))
          · -- a trait
            rw [if_neg (by omega), if_pos o] at hok
            have hv : 0 ≤ G r 3 k ∧ G r 3 k < 6 := by
              rcases hw with w | w | w | w | w | w
              · omega
              · exact w.2
              · omega
              · omega
              · omega
              · omega
            subst hbe
            have hok := hok rfl
            have fin : ∀ v : Int, v = (if G r 3 k < 3 then m 2 (3 * (p / 8) + G r 3 k) else m 2 (3 * (8 + p % 8) + G r 3 k - 3)) → v ≠ -4611686018427387904 ∧ aX9_read_51 (d + 2 * R + 2) p dp P (40 * dp) (top + 1) (a + 1) (cnt + 1) (jUp m1 52 top v) Q := by
              intro v hv2
              refine ⟨?_, hok _ (cnt + 1) (fun q h1 h2 h3 => by rw [up_ne h2]; exact hf q h1 h2 h3) (fun i hi => up_oth (by omega)) (by rw [up_same]; exact hv2) (fun i _ => by rw [up_ne (by omega)]) (by omega) (by omega)⟩
              rw [hv2]
              split
              · have := ht (3 * (p / 8) + G r 3 k) (by omega) (by omega); omega
              · have := ht (3 * (8 + p % 8) + G r 3 k - 3) (by omega) (by omega); omega
            rcases c1 with ⟨d1, d2, d3⟩ | ⟨d1, d2, d3⟩
            · obtain ⟨f1, f2⟩ := fin (m 2 (3 * (p / 8) + G r 3 k)) (by rw [if_pos d1])
              exact stpLeaf a top cnt _ m1 hf ha (by omega) hcnt hcnt2 htop hlt160 (Or.inr ⟨Or.inl d2, by omega⟩) (by rw [if_neg (by omega), if_pos d2, d3]) f1 f2
            · obtain ⟨f1, f2⟩ := fin (m 2 (3 * (8 + p % 8) + G r 3 k - 3)) (by rw [if_neg d1])
              exact stpLeaf a top cnt _ m1 hf ha (by omega) hcnt hcnt2 htop hlt160 (Or.inr ⟨Or.inr d2, by omega⟩) (by rw [if_neg (by omega), if_neg (by omega), d3, show 3 * (8 + p % 8) + (G r 3 k - 3) = 3 * (8 + p % 8) + G r 3 k - 3 by omega]) f1 f2
          · -- a rule
            rw [if_neg (by omega), if_neg (by omega), if_pos o] at hok hfl
            have hq : (0 ≤ G r 3 k ∧ G r 3 k < 4) ∧ (G (G r 3 k) 0 0 = 0 ∨ wf G n (G r 3 k) (G (G r 3 k) 1 0)) := by
              rcases hw with w | w | w | w | w | w
              · omega
              · omega
              · exact w.2
              · omega
              · omega
              · omega
            have hlt := hRk.2 r (G r 3 k) hr.1 hr.2 hq.1.1 hq.1.2 ⟨k, hk24.1, hk24.2.2, o, rfl⟩
            have hnn := (hRk.1 (G r 3 k) hq.1.1 hq.1.2).1
            have hy : gVal G (m 2) (p / 8) (p % 8) (G r 3 k) = (if G (G r 3 k) 0 0 = 0 then vOk 0 else En (G r 3 k) (G (G r 3 k) 1 0)) := by
              unfold gVal
              by_cases g : G (G r 3 k) 0 0 = 0
              · rw [if_pos g, if_pos g]
              · rw [if_neg g, if_neg g, ← hEn]
                rcases hq.2 with w | w
                · exact absurd w g
                · exact ev_le (by omega) w
            rw [← hy] at hok hfl
            have hyc : (gVal G (m 2) (p / 8) (p % 8) (G r 3 k)).2.1 ≠ 0 → 1 ≤ (gVal G (m 2) (p / 8) (p % 8) (G r 3 k)).2.2.2.1 := by
              unfold gVal
              split
              · intro h; exact absurd rfl h
              · exact ev_c1 _ _ _ _ _ _ _
            have hyb : bnd (gVal G (m 2) (p / 8) (p % 8) (G r 3 k)).1 := by
              rw [hy]
              split
              · show bnd 0; unfold bnd; omega
              · rename_i g
                rcases hq.2 with w | w
                · exact absurd w g
                · exact bE w
            generalize hYd : gVal G (m 2) (p / 8) (p % 8) (G r 3 k) = y at *
            generalize hqd : G r 3 k = q0 at *
            subst hbe
            obtain ⟨k1, k2, k3, k4, k5, k6⟩ := kk m1 hf
            have e1 : w32 (top + 1) = top + 1 := w32_id (by omega) (by omega)
            have e2 : w32 (a + 1) = a + 1 := w32_id (by omega) (by omega)
            have e3 : w32 (cnt + 1) = cnt + 1 := w32_id (by omega) (by omega)
            have e4 : w32 (dp + 1) = dp + 1 := w32_id (by omega) (by omega)
            rw [← k2] at c1
            refine gX9_read_51 (d + 2 * R + 2) p dp P (40 * dp) top a cnt m1 Q ⟨fun _ => ⟨fun _ => ⟨by omega, by omega, by omega, fun q => by omega, fun _ => ?_⟩, fun q => by rw [k1] at q; omega⟩, fun q => by rw [k1] at q; omega⟩
            rw [c1, k3, c2]
            refine jK_deep (show (d + 2 * R + 1) + 1 ≤ d + 2 * R + 2 by omega) (gX9_operand (d + 2 * R + 1) 4 q0 p dp m1 _ ⟨fun _ => ?_, fun q => absurd rfl q⟩)
            rw [e4]
            have hall1 : ∀ q : Int, 0 ≤ q → q < 4 → (1 ≤ m1 5 q ∧ m1 5 q < 48) ∧ cRl G m1 (m1 5 q) q ∧ G q 0 0 ≤ 24 := by
              intro q g1 g2
              obtain ⟨z1, z2, z3⟩ := hall q g1 g2
              rw [k6]
              refine ⟨z1, ?_, z3⟩
              unfold cRl at z2 ⊢
              rw [hf _ (by omega) (by omega) (by omega), hf (m 5 q + 1) (by omega) (by omega) (by omega), hf (m 5 q + 2) (by omega) (by omega) (by omega), hf (m 5 q + 3) (by omega) (by omega) (by omega)]
              exact z2
            refine jK_deep (show d + 2 * (R - 1) + 3 ≤ d + 2 * R + 1 by omega) (ihR (R - 1) (by omega) hq.1 hp (by omega) (by omega) (by omega) hall1 (by rw [k5]; exact ht) (fun m' g1 g2 g3 g4 => ?_) (fun m' g1 g2 g3 g4 g5 => ?_))
            all_goals
              rw [k5, hYd] at *
            · refine ⟨by omega, by omega, fun q => ?_, fun _ => ?_⟩
              · rw [up_same] at q; unfold bnd at hyb; omega
              · rw [e1, e2, e3]
                unfold vNm at hok
                rw [if_pos g1] at hok
                exact hok g1 _ (cnt + 1) (fun q h1 h2 h3 => by rw [up_ne h2, g2 q h1 h2 h3]; exact hf q h1 h2 h3) (fun i hi => by rw [up_oth (by omega)]; exact g3 i (by omega)) up_same (fun i hi => by rw [up_ne (by omega)]; exact g4 i (by omega)) (by omega) (by omega)
            · refine ⟨by omega, by omega, fun _ => ?_, fun q => by rw [up_same] at q; exact absurd rfl q⟩
              have hyc := hyc g1
              unfold vNm at hfl
              rw [if_neg g1] at hfl
              obtain ⟨f1, f2, f3, f4, f5⟩ := g5
              refine hfl g1 _ (fun q h1 h2 h3 => by rw [up_ne h2, g2 q h1 h2 h3]; exact hf q h1 h2 h3) (fun i hi => by rw [up_oth (by omega)]; exact g3 i (by omega)) (fun i hi => by rw [up_ne (by omega)]; exact g4 i (by omega)) ⟨?_, ?_, ?_, ?_, ?_⟩
              · rw [up_ne (by omega)]; exact f1
              · rw [up_ne (by omega)]; exact f2
              · rw [up_ne (by omega), f3]
                show dp + 1 + y.2.2.2.1 = dp + (y.2.2.2.1 + 1)
                omega
              · rw [up_ne (by omega)]; exact f4
              · rw [up_ne (by omega), f5]
                show _ = if y.2.2.2.1 + 1 = 1 then _ else (if y.2.2.2.1 = 1 then r else y.2.2.2.2.2)
                rw [if_neg (show ¬ y.2.2.2.1 + 1 = 1 by omega), if_pos (show 0 < dp + 1 by omega), show dp + 1 - 1 = dp by omega, h53]
          · -- 0 less it
            rw [if_neg (by omega), if_neg (by omega), if_neg (by omega)] at hok hfl
            have hw4 : wf G n r (G r 4 k) := by
              rcases hw with w | w | w | w | w | w
              · omega
              · omega
              · omega
              · exact w.2
              · omega
              · omega
            rcases c1 with ⟨c1, c2⟩ | ⟨c1, c2⟩
            · refine ih n a (b - 1) (G r 4 k) top cnt m1 c1 hw4 (by omega) ha (by omega) hf h53 htop htop2 hcnt hcnt2 (fun g m2 cnt' g1 g2 g3 g4 g5 g6 => ?_) (fun g m2 g1 g2 g3 g4 => ?_)
              · rw [hEn] at g g3
                rw [if_neg (by omega), if_pos o] at hok
                have hl := cS_lt _ c1
                have hb52 : bnd (m2 52 (top + 1 - 1)) := by rw [show top + 1 - 1 = top by omega, g3]; exact bE hw4
                refine stpNeg (b - 1) (top + 1) cnt' m2 g1 (by omega) (by omega) g5 g6 (by omega) (by omega) c2 hb52 ?_
                rw [show top + 1 - 1 = top by omega, g3, show b - 1 + 1 = b by omega]
                exact hok rfl _ (cnt' + 1) (fun q h1 h2 h3 => by rw [up_ne h2]; exact g1 q h1 h2 h3) (fun i hi => by rw [up_oth (by omega)]; exact g2 i hi) up_same (fun i hi => by rw [up_ne (by omega)]; exact g4 i hi) (by omega) (by omega)
              · rw [hEn] at g g4
                rw [if_pos g] at hfl
                exact hfl g m2 g1 g2 g3 g4
            · cases n with
              | zero => exact hw4.elim
              | succ n2 =>
                have hw44 : wf G n2 r (G r 4 (G r 4 k)) := by
                  obtain ⟨_, w⟩ := hw4
                  rcases w with w | w | w | w | w | w
                  · omega
                  · omega
                  · omega
                  · exact w.2
                  · omega
                  · omega
                have hx : En r (G r 4 k) = if (ev G (m 2) (p / 8) (p % 8) n2 r (G r 4 (G r 4 k))).2.1 ≠ 0 then ev G (m 2) (p / 8) (p % 8) n2 r (G r 4 (G r 4 k)) else vOk (-(ev G (m 2) (p / 8) (p % 8) n2 r (G r 4 (G r 4 k))).1) := by
                  rw [← hEn, ev_S]
                  unfold evS
                  rw [if_neg (by omega), if_neg (by omega), if_neg (by omega), if_pos c1]
                rw [hx] at hok hfl
                refine ih n2 a b (G r 4 (G r 4 k)) top cnt m1 c2 hw44 (by omega) ha (by omega) hf h53 htop htop2 hcnt hcnt2 (fun g m2 cnt' g1 g2 g3 g4 g5 g6 => ?_) (fun g m2 g1 g2 g3 g4 => ?_)
                · have n0 : ¬ (ev G (m 2) (p / 8) (p % 8) n2 r (G r 4 (G r 4 k))).2.1 ≠ 0 := fun q => q g
                  simp only [if_neg n0] at hok
                  rw [if_neg (fun q => q rfl), if_pos o] at hok
                  refine hok rfl m2 cnt' g1 g2 ?_ g4 g5 g6
                  rw [g3]
                  show _ = -(-(ev G (m 2) (p / 8) (p % 8) n2 r (G r 4 (G r 4 k))).1)
                  omega
                · simp only [if_pos g] at hfl
                  exact hfl g m2 g1 g2 g3 g4
          · -- bars
            rw [if_neg (by omega), if_neg (by omega), if_neg (by omega)] at hok hfl
            have hw4 : wf G n r (G r 4 k) := by
              rcases hw with w | w | w | w | w | w
              · omega
              · omega
              · omega
              · exact w.2
              · omega
              · omega
            refine ih n a (b - 1) (G r 4 k) top cnt m1 c1 hw4 (by omega) ha (by omega) hf h53 htop htop2 hcnt hcnt2 (fun g m2 cnt' g1 g2 g3 g4 g5 g6 => ?_) (fun g m2 g1 g2 g3 g4 => ?_)
            · rw [hEn] at g g3
              rw [if_neg (by omega), if_neg (by omega), if_pos o] at hok
              have hl := cS_lt _ c1
              have hb52 : bnd (m2 52 (top + 1 - 1)) := by rw [show top + 1 - 1 = top by omega, g3]; exact bE hw4
              refine stpAbs (b - 1) (top + 1) cnt' m2 g1 (by omega) (by omega) g5 g6 (by omega) (by omega) c2 hb52 ?_
              rw [show top + 1 - 1 = top by omega, g3, show b - 1 + 1 = b by omega]
              exact hok rfl _ (cnt' + 1) (fun q h1 h2 h3 => by rw [up_ne h2]; exact g1 q h1 h2 h3) (fun i hi => by rw [up_oth (by omega)]; exact g2 i hi) up_same (fun i hi => by rw [up_ne (by omega)]; exact g4 i hi) (by omega) (by omega)
            · rw [hEn] at g g4
              rw [if_pos g] at hfl
              exact hfl g m2 g1 g2 g3 g4
          · -- two joined
            rw [if_neg (by omega), if_neg (by omega), if_neg (by omega)] at hok hfl
            have hw45 : wf G n r (G r 4 k) ∧ wf G n r (G r 5 k) := by
              rcases hw with w | w | w | w | w | w
              · omega
              · omega
              · omega
              · omega
              · exact w.2
              · omega
            have hl1 := cS_lt _ c1
            have hl2 := cS_lt _ c2
            refine ih n a z (G r 4 k) top cnt m1 c1 hw45.1 (by omega) ha (by omega) hf h53 htop htop2 hcnt hcnt2 (fun g m2 cnt' g1 g2 g3 g4 g5 g6 => ?_) (fun g m2 g1 g2 g3 g4 => ?_)
            · rw [hEn] at g g3
              rw [if_neg (fun q => q g), if_neg (by omega), if_neg (by omega)] at hok hfl
              refine ih n z (b - 1) (G r 5 k) (top + 1) cnt' m2 c2 hw45.2 (by omega) (by omega) (by omega) g1 (by rw [g4 dp (Int.le_refl _)]; exact h53) (by omega) (by omega) g5 (by omega) (fun g' m3 cnt2 f1 f2 f3 f4 f5 f6 => ?_) (fun g' m3 f1 f2 f3 f4 => ?_)
              · rw [hEn] at g' f3
                rw [if_neg (fun q => q g'), if_neg (by omega)] at hok hfl
                have v1 : m3 52 (top + 2 - 2) = (En r (G r 4 k)).1 := by rw [show top + 2 - 2 = top by omega, f2 top (by omega)]; exact g3
                have v2 : m3 52 (top + 2 - 1) = (En r (G r 5 k)).1 := by rw [show top + 2 - 1 = top + 1 by omega]; exact f3
                have h53' : m3 53 dp = r := by rw [f4 dp (Int.le_refl _), g4 dp (Int.le_refl _)]; exact h53
                rw [show top + 1 + 1 = top + 2 by omega]
                refine stpJoin (b - 1) (top + 2) cnt2 (G r 2 k) (G r 8 k) m3 f1 (by omega) (by omega) f5 f6 (by omega) (by omega) o c3 c4 (by rw [v1]; exact bE hw45.1) (by rw [v2]; exact bE hw45.2) h53' (fun q => ?_) (fun q m' q1 q2 q3 q4 => ?_) <;> rw [v1, v2] at *
                · rw [show top + 2 - 2 = top by omega, show top + 2 - 1 = top + 1 by omega, show b - 1 + 1 = b by omega]
                  exact hok q _ (cnt2 + 1) (fun q h1 h2 h3 => by rw [up_ne h2]; exact f1 q h1 h2 h3) (fun i hi => by rw [up_oth (by omega), f2 i (by omega)]; exact g2 i hi) up_same (fun i hi => by rw [up_ne (by omega), f4 i hi]; exact g4 i hi) (by omega) (by omega)
                · exact hfl q m' (cFr_tr f1 q1) (fun i hi => by rw [q2, f2 i (by omega)]; exact g2 i (by omega)) (fun i hi => by rw [q3, f4 i hi]; exact g4 i hi) (cFl_m (fun i hi => by rw [f4 i hi]; exact g4 i hi) q4)
              · rw [hEn] at g' f4
                rw [if_pos g'] at hfl
                exact hfl g' m3 f1 (fun i hi => by rw [f2 i hi]; exact g2 i (by omega)) (fun i hi => by rw [f3 i hi]; exact g4 i hi) (cFl_m g4 f4)
            · rw [hEn] at g g4
              rw [if_pos g] at hfl
              exact hfl g m2 g1 g2 g3 g4
          · -- a choice
            rw [if_neg (by omega), if_neg (by omega), if_neg (by omega)] at hok hfl
            have hw4 : wf G n r (G r 4 k) ∧ wf G n r (G r 5 k) ∧ wf G n r (G r 6 k) ∧ wf G n r (G r 7 k) := by
              rcases hw with w | w | w | w | w | w
              · omega
              · omega
              · omega
              · omega
              · omega
              · exact w.2
            have hl1 := cS_lt _ c1
            have hl2 := cS_lt _ c2
            have hl3 := cS_lt _ c5
            have hl4 := cS_lt _ c8
            refine ih n a x (G r 4 k) top cnt m1 c1 hw4.1 (by omega) ha (by omega) hf h53 htop htop2 hcnt hcnt2 (fun g m2 cnt' g1 g2 g3 g4 g5 g6 => ?_) (fun g m2 g1 g2 g3 g4 => ?_)
            · rw [hEn] at g g3
              rw [if_neg (fun q => q g), if_neg (by omega), if_neg (by omega)] at hok hfl
              refine ih n x y (G r 5 k) (top + 1) cnt' m2 c2 hw4.2.1 (by omega) (by omega) (by omega) g1 (by rw [g4 dp (Int.le_refl _)]; exact h53) (by omega) (by omega) g5 (by omega) (fun g' m3 cnt2 f1 f2 f3 f4 f5 f6 => ?_) (fun g' m3 f1 f2 f3 f4 => ?_)
              · rw [hEn] at g' f3
                rw [if_neg (fun q => q g'), if_pos o] at hok hfl
                have v1 : m3 52 (top + 2 - 2) = (En r (G r 4 k)).1 := by rw [show top + 2 - 2 = top by omega, f2 top (by omega)]; exact g3
                have v2 : m3 52 (top + 2 - 1) = (En r (G r 5 k)).1 := by rw [show top + 2 - 1 = top + 1 by omega]; exact f3
                have h53' : m3 53 dp = r := by rw [f4 dp (Int.le_refl _), g4 dp (Int.le_refl _)]; exact h53
                rw [show top + 1 + 1 = top + 2 by omega]
                refine stpLess y (top + 2) cnt2 (z + 1) m3 f1 (by omega) (by omega) f5 f6 (by omega) (by omega) c3 c4 ?_
                rw [v1, v2, show top + 2 - 2 = top by omega]
                by_cases hlt : (En r (G r 4 k)).1 < (En r (G r 5 k)).1
                · rw [if_pos hlt] at hok hfl ⊢
                  refine ih n (y + 1) z (G r 6 k) top (cnt2 + 1) m3 c5 hw4.2.2.1 (by omega) (by omega) (by omega) f1 h53' htop (by omega) (by omega) (by omega) (fun g'' m4 cnt3 p1 p2 p3 p4 p5 p6 => ?_) (fun g'' m4 p1 p2 p3 p4 => ?_)
                  · rw [hEn] at g'' p3
                    refine stpLeap z (top + 1) cnt3 b m4 p1 (by omega) (by omega) p5 p6 c6 c7 ?_
                    exact hok g'' m4 (cnt3 + 1) p1 (fun i hi => by rw [p2 i hi, f2 i (by omega)]; exact g2 i hi) p3 (fun i hi => by rw [p4 i hi, f4 i hi]; exact g4 i hi) (by omega) (by omega)
                  · rw [hEn] at g'' p4
                    exact hfl g'' m4 p1 (fun i hi => by rw [p2 i hi, f2 i (by omega)]; exact g2 i (by omega)) (fun i hi => by rw [p3 i hi, f4 i hi]; exact g4 i hi) (cFl_m (fun i hi => by rw [f4 i hi]; exact g4 i hi) p4)
                · rw [if_neg hlt] at hok hfl ⊢
                  refine ih n (z + 1) b (G r 7 k) top (cnt2 + 1) m3 c8 hw4.2.2.2 (by omega) (by omega) (by omega) f1 h53' htop (by omega) (by omega) (by omega) (fun g'' m4 cnt3 p1 p2 p3 p4 p5 p6 => ?_) (fun g'' m4 p1 p2 p3 p4 => ?_)
                  · rw [hEn] at g'' p3
                    exact hok g'' m4 cnt3 p1 (fun i hi => by rw [p2 i hi, f2 i (by omega)]; exact g2 i hi) p3 (fun i hi => by rw [p4 i hi, f4 i hi]; exact g4 i hi) p5 p6
                  · rw [hEn] at g'' p4
                    exact hfl g'' m4 p1 (fun i hi => by rw [p2 i hi, f2 i (by omega)]; exact g2 i (by omega)) (fun i hi => by rw [p3 i hi, f4 i hi]; exact g4 i hi) (cFl_m (fun i hi => by rw [f4 i hi]; exact g4 i hi) p4)
              · rw [hEn] at g' f4
                rw [if_pos g'] at hfl
                exact hfl g' m3 f1 (fun i hi => by rw [f2 i hi]; exact g2 i (by omega)) (fun i hi => by rw [f3 i hi]; exact g4 i hi) (cFl_m g4 f4)
            · rw [hEn] at g g4
              rw [if_pos g] at hfl
              exact hfl g m2 g1 g2 g3 g4
    -- the whole text
    have eb : w32 (dp * 40) = 40 * dp := by rw [w32_id (by omega) (by omega)]; omega
    have u5 : ∀ q, q ≠ 53 → jUp m 53 dp r q = m q := fun q hq => up_ne hq
    refine gX9_read (d + 2 * R + 2) r p dp m Q ⟨fun _ => ⟨by omega, hr, by rw [eb]; omega, ?_⟩, fun q => by omega⟩
    rw [eb, u5 5 (by omega), hPd]
    have hf0 : cFr m (jUp (jUp m 53 dp r) 52 (40 * dp) 0) := fun q h1 h2 h3 => by rw [up_ne h2, up_ne h3]
    have h520 : jUp (jUp m 53 dp r) 52 (40 * dp) 0 52 (40 * dp) = 0 := up_same
    have h52o : ∀ i, i < 40 * dp → jUp (jUp m 53 dp r) 52 (40 * dp) 0 52 i = m 52 i := fun i hi => by rw [up_oth (by omega), up_ne (by omega)]
    have h53d : jUp (jUp m 53 dp r) 52 (40 * dp) 0 53 dp = r := by rw [up_ne (by omega), up_same]
    have h53o : ∀ i, i < dp → jUp (jUp m 53 dp r) 52 (40 * dp) 0 53 i = m 53 i := fun i hi => by rw [up_ne (by omega), up_oth (by omega)]
    generalize jUp (jUp m 53 dp r) 52 (40 * dp) 0 = m1 at *
    obtain ⟨k1, _⟩ := kk m1 hf0
    rcases hbody with ⟨b1, b2⟩ | ⟨b1, b2, b3⟩
    · unfold gVal at hOK
      rw [if_pos b1] at hOK
      refine gX9_read_51 (d + 2 * R + 2) p dp P (40 * dp) (40 * dp) 0 0 m1 Q ⟨fun q => by rw [k1] at q; omega, fun _ => ⟨by omega, ?_⟩⟩
      rw [h520]
      exact hOK m1 rfl hf0 h52o h53o
    · unfold gVal at hOK hFL
      rw [if_neg b1] at hOK hFL
      refine seg 100 100 0 S (G r 1 0) (40 * dp) 0 m1 b2 b3 (Nat.le_refl _) (by omega) (Int.le_refl _) hf0 h53d (Int.le_refl _) (by omega) (by omega) (by omega) (fun g m2 cnt' g1 g2 g3 g4 g5 g6 => ?_) (fun g m2 g1 g2 g3 g4 => ?_)
      · have fin : Q (m2 52 (40 * dp)) m2 := by
          rw [g3]
          exact hOK m2 g g1 (fun i hi => by rw [g2 i hi]; exact h52o i hi) (fun i hi => by rw [g4 i (by omega)]; exact h53o i hi)
        obtain ⟨k1', _⟩ := kk m2 g1
        exact gX9_read_51 (d + 2 * R + 2) p dp P (40 * dp) (40 * dp + 1) S cnt' m2 Q ⟨fun _ => ⟨fun q => by rw [k1'] at q; omega, fun _ => ⟨by omega, fin⟩⟩, fun _ => ⟨by omega, fin⟩⟩
      · refine hFL m2 g g1 (fun i hi => by rw [g2 i hi]; exact h52o i hi) (fun i hi => by rw [g3 i (by omega)]; exact h53o i hi) ?_
        unfold cFl at g4 ⊢
        by_cases hd0 : 0 < dp
        · rw [h53o (dp - 1) (by omega)] at g4; exact g4
        · rw [if_neg hd0] at g4 ⊢; exact g4
theorem s_tellBy {d : Nat} {r p : Int} {m : jM} {Q : Int → jM → Prop} (h : jK d zX9_read [jO 9 51, jO 0 1, jI r, jI p, jI 0] m Q) : jK (d + 1) zX9_tellBy [jO 9 51, jO 0 1, jI r, jI p] m Q := gX9_tellBy d r p m Q h

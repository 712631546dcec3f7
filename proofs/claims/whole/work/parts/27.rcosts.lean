/-! burdens, which pairs are open: the reference's -/
def burF (ow : Int → Int) (V : Int → Int → vR) (j c : Int) : Int := if ow (8 * j + c) ≠ -1 then ow (8 * j + c) else if (V j c).2.1 ≠ 0 then -1 else if (V j c).1 < 0 then 0 else (V j c).1
def noFo (mk : Int → Int) (j c : Int) : Prop := ∀ k : Int, 0 ≤ k → k < 8 → (k ≠ c → mk (8 * j + k) ≠ 2) ∧ (k ≠ j → mk (8 * k + c) ≠ 2)
noncomputable def gO (J C : Int → Bool) (bu : Int → Int → Int) (mk : Int → Int) (j c : Int) : Bool := bP (J j = true ∧ C c = true ∧ bu j c ≠ -1 ∧ mk (8 * j + c) ≠ 1 ∧ noFo mk j c)
theorem gO_iff {J C : Int → Bool} {bu : Int → Int → Int} {mk : Int → Int} {j c : Int} : gO J C bu mk j c = true ↔ J j = true ∧ C c = true ∧ bu j c ≠ -1 ∧ mk (8 * j + c) ≠ 1 ∧ noFo mk j c := bP_t
theorem bool_eq {a b : Bool} (h : a = true ↔ b = true) : a = b := by
  cases a <;> cases b <;> simp at h <;> rfl
theorem burF_b {ow : Int → Int} {V : Int → Int → vR} {j c : Int} (ho : -1 ≤ ow (8 * j + c) ∧ ow (8 * j + c) ≤ 1000000000) (hV : bnd (V j c).1) : -1 ≤ burF ow V j c ∧ burF ow V j c ≤ 1000000000 := by
  unfold burF
  unfold bnd at hV
  split
  · omega
  · split
    · omega
    · split <;> omega
theorem gO_B {J C : Int → Bool} {bu : Int → Int → Int} {mk : Int → Int} (h : ∀ j c : Int, 0 ≤ j → j < 8 → 0 ≤ c → c < 8 → -1 ≤ bu j c ∧ bu j c ≤ 1000000000) : dpB (gO J C bu mk) bu := by
  intro j c j1 j2 c1 c2 g
  have := h j c j1 j2 c1 c2
  have := (gO_iff.mp g).2.2.1
  omega
def rROk (m : jM) : Prop := ∀ q : Int, 0 ≤ q → q < 4 → rG m q 0 0 = 0 ∨ wf (rG m) 100 q (rG m q 1 0)
def rF39 (m m' : jM) : Prop := (∀ q, q ≠ 103 → m' q = m q) ∧ ∀ f, ¬ (33 ≤ f ∧ f ≤ 39) → m' 103 f = m 103 f
theorem rF39_tr {m m1 m2 : jM} (h : rF39 m m1) (h' : rF39 m1 m2) : rF39 m m2 := ⟨fun q hq => by rw [h'.1 q hq, h.1 q hq], fun f hf => by rw [h'.2 f hf, h.2 f hf]⟩
theorem s_asked {d : Nat} {r j c : Int} {m : jM} {Q : Int → jM → Prop} (hR : rROk m) (ht : tbd (m 105)) (hr : 0 ≤ r ∧ r < 4) (hj : 0 ≤ j ∧ j < 8) (hc : 0 ≤ c ∧ c < 8)
    (h : ∀ m' v, rF39 m m' → rVs (gVal (rG m) (m 105) j c r) v m' → Q v m') : jK (d + 304) zX11_asked [jO 11 103, jI r, jI j, jI c] m Q := by
  have u : ∀ q, q ≠ 103 → jUp (jUp (jUp m 103 33 0) 103 38 j) 103 39 c q = m q := fun q hq => by rw [up_ne hq, up_ne hq, up_ne hq]
  have u33 : jUp (jUp (jUp m 103 33 0) 103 38 j) 103 39 c 103 33 = 0 := by rw [up_oth (by omega), up_oth (by omega), up_same]
  have u38 : jUp (jUp (jUp m 103 33 0) 103 38 j) 103 39 c 103 38 = j := by rw [up_oth (by omega), up_same]
  have u39 : jUp (jUp (jUp m 103 33 0) 103 38 j) 103 39 c 103 39 = c := up_same
  have uo : ∀ f, ¬ (33 ≤ f ∧ f ≤ 39) → jUp (jUp (jUp m 103 33 0) 103 38 j) 103 39 c 103 f = m 103 f := fun f hf => by rw [up_oth (by omega), up_oth (by omega), up_oth (by omega)]
  refine gX11_asked (d + 303) r j c m Q ?_
  generalize jUp (jUp (jUp m 103 33 0) 103 38 j) 103 39 c = m1 at *
  have eG : rG m1 = rG m := rG_eq u
  have h0 : rG m r 0 0 = m 108 r := rfl
  have h1 : rG m r 1 0 = m 109 r := rfl
  refine gX11_valueOf (d + 302) r m1 _ ⟨hr, fun g => ?_, fun g => ⟨hr, ?_⟩⟩
  · rw [u 108 (by omega)] at g
    unfold gVal at h
    rw [h0, if_pos g] at h
    exact h m1 0 ⟨u, uo⟩ ⟨u33, fun _ => rfl, fun q => absurd rfl q⟩
  · rw [u 108 (by omega)] at g
    unfold gVal at h
    rw [h0, if_neg g] at h
    have hw : wf (rG m) 100 r (m 109 r) := by
      rcases hR r hr.1 hr.2 with w | w
      · exact absurd w g
      · exact w
    rw [u 109 (by omega)]
    refine s_valueOf_ d 100 (by omega) (by rw [eG]; exact hw) hr u33 (by rw [u 105 (by omega)]; exact ht) (by rw [u38]; exact hj) (by rw [u39]; exact hc) (fun m' v f1 f2 => ?_)
    rw [eG, u 105 (by omega), u38, u39] at f2
    exact h m' v ⟨fun q hq => by rw [f1.1 q hq]; exact u q hq, fun f hf => by rw [f1.2 f (by omega)]; exact uo f hf⟩ f2
def rV0 (m : jM) (j c : Int) : vR := gVal (rG m) (m 105) j c 0
def rBu (m : jM) : Int → Int → Int := burF (m 106) (rV0 m)
theorem s_burdenR {d : Nat} {j c : Int} {m : jM} {Q : Int → jM → Prop} (hR : rROk m) (ht : tbd (m 105)) (hj : 0 ≤ j ∧ j < 8) (hc : 0 ≤ c ∧ c < 8)
    (h : ∀ m', rF39 m m' → Q (rBu m j c) m') : jK (d + 305) zX11_burdenOf [jO 11 103, jI j, jI c] m Q := by
  have e1 : w32 (w32 (8 * j) + c) = 8 * j + c := by simp (disch := omega) only [w32_id]
  unfold rBu burF at h
  refine gX11_burdenOf (d + 304) j c m Q ⟨by omega, fun q => s_asked hR ht (by omega) hj hc (fun m' v f1 f2 => ⟨fun g => ⟨fun g2 => ?_, fun g2 => ?_⟩, fun g => ?_⟩), fun q => ?_⟩ <;> rw [e1] at q
  · have hv := f2.2.1 (by rw [← f2.1]; exact g)
    have h := h m' f1
    rw [if_neg (fun k => k q), if_neg (fun k => k (show (rV0 m j c).2.1 = 0 by rw [show (rV0 m j c).2.1 = m' 103 33 from f2.1.symm]; exact g)), if_pos (show (rV0 m j c).1 < 0 by rw [show (rV0 m j c).1 = v from hv.symm]; exact g2)] at h
    exact h
  · have hv := f2.2.1 (by rw [← f2.1]; exact g)
    have h := h m' f1
    rw [if_neg (fun k => k q), if_neg (fun k => k (show (rV0 m j c).2.1 = 0 by rw [show (rV0 m j c).2.1 = m' 103 33 from f2.1.symm]; exact g)), show (rV0 m j c).1 = v from hv.symm, if_neg g2] at h
    exact h
  · have h := h m' f1
    rw [if_neg (fun k => k q), if_pos (show (rV0 m j c).2.1 ≠ 0 by rw [show (rV0 m j c).2.1 = m' 103 33 from f2.1.symm]; exact g)] at h
    exact h
  · have h := h m ⟨fun _ _ => rfl, fun _ _ => rfl⟩
    rw [if_pos q] at h
    rw [e1]
    exact h
/-- what the rules are told of depends on rows that stay -/
theorem rV0_eq {m m' : jM} (h : ∀ q, q ≠ 103 → q ≠ 127 → q ≠ 128 → m' q = m q) : rV0 m' = rV0 m ∧ rBu m' = rBu m ∧ (rROk m → rROk m') := by
  have eG : rG m' = rG m := by
    funext r f k
    unfold rG
    rw [h 108 (by omega) (by omega) (by omega), h 109 (by omega) (by omega) (by omega), h 111 (by omega) (by omega) (by omega), h 112 (by omega) (by omega) (by omega), h 113 (by omega) (by omega) (by omega), h 114 (by omega) (by omega) (by omega), h 115 (by omega) (by omega) (by omega), h 116 (by omega) (by omega) (by omega), h 117 (by omega) (by omega) (by omega)]
  have e0 : rV0 m' = rV0 m := by
    funext j c
    unfold rV0
    rw [eG, h 105 (by omega) (by omega) (by omega)]
  refine ⟨e0, ?_, fun g => ?_⟩
  · unfold rBu
    rw [e0, h 106 (by omega) (by omega) (by omega)]
  · unfold rROk
    rw [eG]; exact g
theorem s_tellsBurdens {d : Nat} {m : jM} {Q : Int → jM → Prop} (hR : rROk m) (ht : tbd (m 105))
    (h : ∀ m', (∀ q, q ≠ 103 → q ≠ 127 → m' q = m q) → (∀ f, ¬ (33 ≤ f ∧ f ≤ 39) → m' 103 f = m 103 f) → (∀ x : Int, 0 ≤ x → x < 64 → m' 127 x = rBu m (x / 8) (x % 8)) → Q 0 m') : jK (d + 306) zX11_tellsBurdens [jO 11 103] m Q := by
  have loop : ∀ (r : Nat) (x : Int) (m1 : jM), 0 ≤ x → x + r = 64 → (∀ q, q ≠ 103 → q ≠ 127 → m1 q = m q) → (∀ f, ¬ (33 ≤ f ∧ f ≤ 39) → m1 103 f = m 103 f) → (∀ z : Int, 0 ≤ z → z < x → m1 127 z = rBu m (z / 8) (z % 8)) → aX11_tellsBurdens_2 (d + 305) x m1 Q := by
    intro r
    induction r with
    | zero =>
      intro x m1 hx hr f0 f1 f2
      exact gX11_tellsBurdens_2 (d + 305) x m1 Q ⟨fun q => by omega, fun _ => h m1 f0 f1 (fun z z1 z2 => f2 z z1 (by omega))⟩
    | succ r ih =>
      intro x m1 hx hr f0 f1 f2
      have ex : w32 (x + 1) = x + 1 := w32_id (by omega) (by omega)
      have ed : iDiv x 8 = x / 8 := iDiv_nn hx (by omega) (by omega)
      have er : iRem x 8 = x % 8 := iRem_nn hx
      obtain ⟨e0, e1, e2⟩ := rV0_eq (m := m) (m' := m1) (fun q q1 q2 _ => f0 q q1 q2)
      refine gX11_tellsBurdens_2 (d + 305) x m1 Q ⟨fun _ => ⟨by omega, by omega, ?_⟩, fun q => by omega⟩
      rw [ed, er]
      refine s_burdenR (e2 hR) (by rw [f0 105 (by omega) (by omega)]; exact ht) (by omega) (by omega) (fun m' g => ⟨by omega, ?_⟩)
      rw [ex, e1]
      refine ih (x + 1) _ (by omega) (by omega) (fun q q1 q2 => by rw [up_ne q2, g.1 q q1]; exact f0 q q1 q2) (fun f hf => by rw [up_ne (by omega), g.2 f hf]; exact f1 f hf) (fun z z1 z2 => ?_)
      rw [up_eq]
      split
      · rename_i hz; rw [hz]
      · rw [g.1 127 (by omega)]; exact f2 z z1 (by omega)
  exact gX11_tellsBurdens (d + 305) m Q (loop 64 0 m (by omega) (by omega) (fun _ _ _ => rfl) (fun _ _ => rfl) (fun z z1 z2 => by omega))
theorem s_forcedOf {d : Nat} {y j c : Int} {m : jM} {Q : Int → jM → Prop} (hj : 0 ≤ j ∧ j < 8) (hc : 0 ≤ c ∧ c < 8) (h : ∀ n : Int, 0 ≤ n → (n = 0 ↔ noFo (m y) j c) → Q n m) : jK (d + 1) zX11_forcedOf [jY 0 64 y, jI j, jI c] m Q := by
  have loop : ∀ (r : Nat) (n k : Int), 0 ≤ k → k + r = 8 → (0 ≤ n ∧ n ≤ 2 * k) → (n = 0 ↔ ∀ z : Int, 0 ≤ z → z < k → (z ≠ c → m y (8 * j + z) ≠ 2) ∧ (z ≠ j → m y (8 * z + c) ≠ 2)) → aX11_forcedOf_5 d 64 y j c n k m Q := by
    intro r
    induction r with
    | zero =>
      intro n k hk hr hn hi
      refine gX11_forcedOf_5 d 64 y j c n k m Q ⟨fun q => by omega, fun _ => h n hn.1 ?_⟩
      rw [hi, show k = 8 by omega]
      exact Iff.rfl
    | succ r ih =>
      intro n k hk hr hn hi
      have ek : w32 (k + 1) = k + 1 := w32_id (by omega) (by omega)
      have e1 : w32 (w32 (8 * j) + k) = 8 * j + k := by simp (disch := omega) only [w32_id]
      have e2 : w32 (w32 (8 * k) + c) = 8 * k + c := by simp (disch := omega) only [w32_id]
      have step : ∀ n' : Int, (0 ≤ n' ∧ n' ≤ 2 * (k + 1)) → (n' = 0 ↔ n = 0 ∧ (k ≠ c → m y (8 * j + k) ≠ 2) ∧ (k ≠ j → m y (8 * k + c) ≠ 2)) → aX11_forcedOf_5 d 64 y j c n' (k + 1) m Q := by
        intro n' hn' hi'
        refine ih n' (k + 1) (by omega) (by omega) hn' ?_
        rw [hi', hi]
        constructor
        · rintro ⟨g1, g2⟩ z z1 z2
          by_cases hz : z = k
          · rw [hz]; exact g2
          · exact g1 z z1 (by omega)
        · intro g
          exact ⟨fun z z1 z2 => g z z1 (by omega), g k hk (by omega)⟩
      have L34 : ∀ n1 : Int, (0 ≤ n1 ∧ n1 ≤ 2 * k + 1) → (n1 = 0 ↔ n = 0 ∧ (k ≠ c → m y (8 * j + k) ≠ 2)) → aX11_forcedOf_34 d 64 y j c n1 k m Q := by
        intro n1 hn1 hi1
        refine gX11_forcedOf_34 d 64 y j c n1 k m Q ⟨fun q => ?_, fun q => ⟨by omega, fun q2 => ?_, fun q2 => ?_⟩⟩ <;> rw [ek]
        · refine step n1 (by omega) ?_
          rw [hi1]
          exact ⟨fun g => ⟨g.1, g.2, fun k' => absurd q k'⟩, fun g => ⟨g.1, g.2.1⟩⟩
        · rw [e2] at q2
          rw [w32_id (z := n1 + 1) (by omega) (by omega)]
          refine step (n1 + 1) (by omega) ⟨fun g => by omega, fun g => absurd q2 (g.2.2 q)⟩
        · rw [e2] at q2
          refine step n1 (by omega) ?_
          rw [hi1]
          exact ⟨fun g => ⟨g.1, g.2, fun _ => q2⟩, fun g => ⟨g.1, g.2.1⟩⟩
      refine gX11_forcedOf_5 d 64 y j c n k m Q ⟨fun _ => ⟨fun q => L34 n (by omega) ⟨fun g => ⟨g, fun k' => absurd q k'⟩, fun g => g.1⟩, fun q => ⟨by omega, fun q2 => ?_, fun q2 => ?_⟩⟩, fun q => by omega⟩ <;> rw [e1] at q2
      · rw [w32_id (z := n + 1) (by omega) (by omega)]
        exact L34 (n + 1) (by omega) ⟨fun g => by omega, fun g => absurd q2 (g.2 q)⟩
      · exact L34 n (by omega) ⟨fun g => ⟨g, fun _ => q2⟩, fun g => g.1⟩
  exact gX11_forcedOf d 64 y j c m Q (loop 8 0 0 (by omega) (by omega) (by omega) ⟨fun _ z z1 z2 => by omega, fun _ => rfl⟩)
def rJ (w : Int → Int) (j : Int) : Bool := decide (w j = 1)
theorem s_isOpenR {d : Nat} {y j c : Int} {m : jM} {bu : Int → Int → Int} {Q : Int → jM → Prop} (hj : 0 ≤ j ∧ j < 8) (hc : 0 ≤ c ∧ c < 8) (hb : m 127 (8 * j + c) = bu j c) (h : Q (bI (gO (rJ (m 104)) (rC (m 104)) bu (m y) j c = true)) m) : jK (d + 2) zX11_isOpen [jO 11 103, jY 0 64 y, jI j, jI c] m Q := by
  have e1 : w32 (w32 (8 * j) + c) = 8 * j + c := by simp (disch := omega) only [w32_id]
  have no : ¬ gO (rJ (m 104)) (rC (m 104)) bu (m y) j c = true → Q 0 m := fun g => by rw [bI_f g] at h; exact h
  have hJ : rJ (m 104) j = true ↔ m 104 j = 1 := by unfold rJ; simp
  refine gX11_isOpen (d + 1) 64 y j c m Q (s_isJudge hj ⟨fun q => no ?_, fun q => s_isCase hc ⟨fun q2 => no ?_, fun q2 => ⟨by omega, fun q3 => no ?_, fun q3 => ⟨by omega, fun q4 => no ?_, fun q4 => s_forcedOf hj hc (fun n n0 hn => ⟨fun q5 => ?_, fun q5 => no ?_⟩)⟩⟩⟩⟩) <;> try rw [gO_iff]
  · rw [bI_0] at q; rintro ⟨g, _⟩; exact q (hJ.mp g)
  · rw [bI_0] at q2; rintro ⟨_, g, _⟩; exact q2 g
  · rw [e1, hb] at q3; rintro ⟨_, _, g, _⟩; exact g q3
  · rw [e1] at q4; rintro ⟨_, _, _, g, _⟩; exact g q4
  · rw [bI_0, Classical.not_not] at q q2
    rw [e1, hb] at q3
    rw [e1] at q4
    rw [bI_t (gO_iff.mpr ⟨hJ.mpr q, q2, q3, q4, hn.mp q5⟩)] at h
    exact h
  · rintro ⟨_, _, _, _, g⟩; exact q5 (hn.mpr g)
theorem s_opens {d : Nat} {y : Int} {m : jM} {bu : Int → Int → Int} {Q : Int → jM → Prop} (hy : y ≠ 128) (hb : ∀ x : Int, 0 ≤ x → x < 64 → m 127 x = bu (x / 8) (x % 8))
    (h : ∀ m', (∀ q, q ≠ 128 → m' q = m q) → (∀ j c : Int, 0 ≤ j → j < 8 → 0 ≤ c → c < 8 → rO (m' 128) j c = gO (rJ (m 104)) (rC (m 104)) bu (m y) j c ∧ (gO (rJ (m 104)) (rC (m 104)) bu (m y) j c = true → rB (m' 128) j c = bu j c)) → Q 0 m') : jK (d + 3) zX11_opens_ [jO 11 103, jY 0 64 y] m Q := by
  have loop : ∀ (r : Nat) (x : Int) (m1 : jM), 0 ≤ x → x + r = 64 → (∀ q, q ≠ 128 → m1 q = m q) → (∀ z : Int, 0 ≤ z → z < x → m1 128 z = if gO (rJ (m 104)) (rC (m 104)) bu (m y) (z / 8) (z % 8) = true then bu (z / 8) (z % 8) else -1) → aX11_opens__2 (d + 2) 64 y x m1 Q := by
    intro r
    induction r with
    | zero =>
      intro x m1 hx hr f0 f1
      refine gX11_opens__2 (d + 2) 64 y x m1 Q ⟨fun q => by omega, fun _ => h m1 f0 (fun j c j1 j2 c1 c2 => ?_)⟩
      have := f1 (8 * j + c) (by omega) (by omega)
      rw [show (8 * j + c) / 8 = j by omega, show (8 * j + c) % 8 = c by omega] at this
      unfold rO rB
      rw [this]
      cases hg : gO (rJ (m 104)) (rC (m 104)) bu (m y) j c with
      | true =>
        rw [if_pos rfl]
        have := (gO_iff.mp hg).2.2.1
        exact ⟨by simpa using this, fun _ => rfl⟩
      | false => exact ⟨by simp, fun g => by cases g⟩
    | succ r ih =>
      intro x m1 hx hr f0 f1
      have ex : w32 (x + 1) = x + 1 := w32_id (by omega) (by omega)
      have ed : iDiv x 8 = x / 8 := iDiv_nn hx (by omega) (by omega)
      have er : iRem x 8 = x % 8 := iRem_nn hx
      have k105 := f0 104 (by omega)
      have ky := f0 y hy
      have k128 := f0 127 (by omega)
      have go : ∀ v, v = (if gO (rJ (m 104)) (rC (m 104)) bu (m y) (x / 8) (x % 8) = true then bu (x / 8) (x % 8) else -1) → aX11_opens__2 (d + 2) 64 y (x + 1) (jUp m1 128 x v) Q := by
        intro v hv
        refine ih (x + 1) _ (by omega) (by omega) (fun q hq => by rw [up_ne hq]; exact f0 q hq) (fun z z1 z2 => ?_)
        rw [up_eq]
        split
        · rename_i hz; rw [hz]; exact hv
        · exact f1 z z1 (by omega)
      refine gX11_opens__2 (d + 2) 64 y x m1 Q ⟨fun _ => ⟨by omega, by omega, ?_⟩, fun q => by omega⟩
      rw [ed, er]
      refine s_isOpenR (bu := bu) (by omega) (by omega) (by rw [k128, show 8 * (x / 8) + x % 8 = x by omega]; exact hb x hx (by omega)) ⟨fun q => ⟨by omega, ?_⟩, fun q => ⟨by omega, by omega, ?_⟩⟩ <;> rw [bI_0, k105, ky] at q <;> rw [ex]
      · exact go _ (by rw [if_neg q])
      · rw [Classical.not_not] at q
        refine go _ ?_
        rw [if_pos q, k128]
        exact hb x hx (by omega)
  exact gX11_opens_ (d + 2) 64 y m Q (loop 64 0 m (by omega) (by omega) (fun _ _ => rfl) (fun z z1 z2 => by omega))
theorem s_costs {d : Nat} {m : jM} {Q : Int → jM → Prop} (hR : rROk m) (ht : tbd (m 105))
    (h : ∀ m', (∀ q, q ≠ 103 → q ≠ 127 → q ≠ 128 → m' q = m q) → (∀ f, ¬ (33 ≤ f ∧ f ≤ 39) → m' 103 f = m 103 f) → (∀ x : Int, 0 ≤ x → x < 64 → m' 127 x = rBu m (x / 8) (x % 8)) → (∀ j c : Int, 0 ≤ j → j < 8 → 0 ≤ c → c < 8 → rO (m' 128) j c = gO (rJ (m 104)) (rC (m 104)) (rBu m) (m 107) j c ∧ (gO (rJ (m 104)) (rC (m 104)) (rBu m) (m 107) j c = true → rB (m' 128) j c = rBu m j c)) → Q 0 m') : jK (d + 307) zX11_costs [jO 11 103] m Q := by
  refine gX11_costs (d + 306) m Q (s_tellsBurdens hR ht (fun m1 f0 f1 f2 => ?_))
  refine jK_deep (show (d + 303) + 3 ≤ d + 306 by omega) (s_opens (y := 107) (bu := rBu m) (by omega) f2 (fun m2 g0 g1 => ?_))
  rw [f0 104 (by omega) (by omega), f0 107 (by omega) (by omega)] at g1
  exact h m2 (fun q q1 q2 q3 => by rw [g0 q q3]; exact f0 q q1 q2) (fun f hf => by rw [g0 103 (by omega)]; exact f1 f hf) (fun x x1 x2 => by rw [g0 127 (by omega)]; exact f2 x x1 x2) g1

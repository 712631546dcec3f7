/-! the class's plan: weigh -/
theorem pcn_mono {f : Int → Bool} {i j : Nat} (h : i ≤ j) : pcn f i ≤ pcn f j := by
  induction h with
  | refl => exact Int.le_refl _
  | @step n _ ih =>
    rw [show pcn f (n + 1) = pcn f n + (if f n = true then 1 else 0) from rfl]
    split <;> omega
theorem pcn_lt {f : Int → Bool} {i j : Nat} (h : i < j) (hf : f i = true) : pcn f i + 1 ≤ pcn f j := by
  have := pcn_mono (f := f) (show i + 1 ≤ j by omega)
  rw [show pcn f (i + 1) = pcn f i + (if f i = true then 1 else 0) from rfl, if_pos hf] at this
  omega
/-- where case number t (by turn) stands, from behind -/
def pLv (p : Int) (m : jM) (t : Int) : Nat := if t < m p 1 then (8 - m (p + 1) t).toNat else 0
def pEn (h p : Int) (m : jM) (s : Int) : Prop := m (p + 4) s = toN (dpt h (pO (m (p + 3))) (rB (m (p + 2))) (bt (m p 0)) (pLv p m (pc8 s)) s).1 ∧ m (p + 5) s = (dpt h (pO (m (p + 3))) (rB (m (p + 2))) (bt (m p 0)) (pLv p m (pc8 s)) s).2
def sub8 (x y : Int) : Prop := ∀ j : Int, 0 ≤ j → j < 8 → bt x j = true → bt y j = true
def pW (h p : Int) (m : jM) : Prop := plL p m 8 ∧ ∀ s, mk8 s → sub8 s (m p 3) → pEn h p m s
/-- from case c on to the next turn's: cases in between are OUT -/
theorem pLv_gap {p : Int} {m : jM} (hp : plL p m 8) {t c0 : Int} (h0 : 0 ≤ t) (hc0 : 0 ≤ c0) (hlow : pcn (bt (m p 0)) c0.toNat = t) (hc8 : c0 ≤ 8) (ht : t ≤ m p 1) : ∃ e : Nat, (8 - c0).toNat = pLv p m t + e ∧ ∀ c : Int, 8 - (((pLv p m t : Nat) : Int) + e) ≤ c → c < 8 - (pLv p m t : Nat) → bt (m p 0) c = false := by
  obtain ⟨a1, a2, a3, a4⟩ := hp
  unfold pLv
  split
  · rename_i hlt
    obtain ⟨c1, c2, c3, c4⟩ := a3 t (by omega) hlt
    have hord : c0 ≤ m (p + 1) t := by
      apply Decidable.byContradiction
      intro g
      have := pcn_lt (f := bt (m p 0)) (i := (m (p + 1) t).toNat) (j := c0.toNat) (by omega) (by rw [Int.toNat_of_nonneg c1]; exact c3)
      omega
    refine ⟨(m (p + 1) t - c0).toNat, by omega, fun c g1 g2 => ?_⟩
    cases hbc : bt (m p 0) c with
    | false => rfl
    | true =>
      exfalso
      have h1 := pcn_mono (f := bt (m p 0)) (i := c0.toNat) (j := c.toNat) (by omega)
      have h2 := pcn_lt (f := bt (m p 0)) (i := c.toNat) (j := (m (p + 1) t).toNat) (by omega) (by rw [Int.toNat_of_nonneg (by omega)]; exact hbc)
      omega
  · rename_i hge
    refine ⟨(8 - c0).toNat, by omega, fun c g1 g2 => ?_⟩
    cases hbc : bt (m p 0) c with
    | false => rfl
    | true =>
      exfalso
      have h1 := pcn_mono (f := bt (m p 0)) (i := c0.toNat) (j := c.toNat) (by omega)
      have h2 := pcn_lt (f := bt (m p 0)) (i := c.toNat) (j := (8 : Int).toNat) (by omega) (by rw [Int.toNat_of_nonneg (by omega)]; exact hbc)
      omega
theorem pLv_sk {p : Int} {m : jM} (hp : plL p m 8) {t : Int} (h0 : 0 ≤ t) (ht : t < m p 1) : ∃ e : Nat, (7 - m (p + 1) t).toNat = pLv p m (t + 1) + e ∧ ∀ c : Int, 8 - (((pLv p m (t + 1) : Nat) : Int) + e) ≤ c → c < 8 - (pLv p m (t + 1) : Nat) → bt (m p 0) c = false := by
  obtain ⟨b1, b2, b3, b4⟩ := hp.2.2.1 t h0 ht
  obtain ⟨e, e1, e2⟩ := pLv_gap hp (t := t + 1) (c0 := m (p + 1) t + 1) (by omega) (by omega) (by rw [pcn_s _ _ b1, b3, b4]; rfl) (by omega) (by omega)
  exact ⟨e, by omega, e2⟩
theorem pLv_sk0 {p : Int} {m : jM} (hp : plL p m 8) : ∃ e : Nat, 8 = pLv p m 0 + e ∧ ∀ c : Int, 8 - (((pLv p m 0 : Nat) : Int) + e) ≤ c → c < 8 - (pLv p m 0 : Nat) → bt (m p 0) c = false := by
  have h1 : 0 ≤ m p 1 := by rw [hp.1]; exact (pcn_nn _ _).1
  obtain ⟨e, e1, e2⟩ := pLv_gap hp (t := 0) (c0 := 0) (by omega) (by omega) rfl (by omega) h1
  exact ⟨e, by omega, e2⟩
/-- the level behind turn t: cases in between are OUT -/
theorem pLv_next {h p : Int} {m : jM} (hp : plL p m 8) {t : Int} (h0 : 0 ≤ t) (ht : t < m p 1) (o : Int → Int → Bool) (b : Int → Int → Int) (s : Int) : dpt h o b (bt (m p 0)) (7 - m (p + 1) t).toNat s = dpt h o b (bt (m p 0)) (pLv p m (t + 1)) s := by
  obtain ⟨e, e1, e2⟩ := pLv_sk hp h0 ht
  obtain ⟨b1, b2, b3, b4⟩ := hp.2.2.1 t h0 ht
  rw [e1]
  exact dpt_skip _ _ (by omega) e2
theorem pLv_first {h p : Int} {m : jM} (hp : plL p m 8) (o : Int → Int → Bool) (b : Int → Int → Int) (s : Int) : dpt h o b (bt (m p 0)) 8 s = dpt h o b (bt (m p 0)) (pLv p m 0) s := by
  obtain ⟨e, e1, e2⟩ := pLv_sk0 hp
  have h2 := dpt_skip (h := h) (o := o) (b := b) (s := s) _ _ (by omega) e2
  rw [← e1] at h2
  exact h2
theorem sub_or1 {x y j : Int} (hj : 0 ≤ j ∧ j < 8) (h : sub8 x y) (hb : bt y j = true) : sub8 (iOr x (iShl 1 j)) y := by
  intro i h1 h2 h3
  rw [bt_or, bt_one (by omega) (by omega), Bool.or_eq_true] at h3
  rcases h3 with h3 | h3
  · exact h i h1 h2 h3
  · rw [decide_eq_true_eq] at h3; rw [h3]; exact hb
theorem s_weigh {d : Nat} {p h : Int} {m : jM} {Q : Int → jM → Prop} (hm : mk8 (m p 0)) (hr : ∀ c : Int, 0 ≤ c → c < 8 → mk8 (m (p + 3) c)) (hB : dpB (pO (m (p + 3))) (rB (m (p + 2))))
    (hQ : ∀ m', (∀ q, q ≠ p → q ≠ p + 1 → q ≠ p + 4 → q ≠ p + 5 → m' q = m q) → (∀ j, j ≠ 1 → j ≠ 3 → m' p j = m p j) → pW h p m' → Q 0 m') : jK (d + 3) zX4_weigh [jO 4 p, jI h] m Q := by
  refine gX4_weigh (d + 2) p h m Q (jK_deep (show d + 1 ≤ d + 2 by omega) (s_listCases hr (fun m1 f1 f2 hL => ?_)))
  have hmp : m1 p 0 = m p 0 := f2 0 (by omega) (by omega)
  have f3 := f1 (p + 3) (by omega) (by omega)
  have f2' := f1 (p + 2) (by omega) (by omega)
  have loop : ∀ (r : Nat) (x : Int) (m2 : jM), x + 1 = r → x ≤ 255 → (∀ q, q ≠ p + 4 → q ≠ p + 5 → m2 q = m1 q) → (∀ s, mk8 s → x < s → sub8 s (m2 p 3) → pEn h p m2 s) → aX4_weigh_8 (d + 2) p h x m2 Q := by
    intro r
    induction r with
    | zero =>
      intro x m2 hx hx2 hf hd
      refine gX4_weigh_8 (d + 2) p h x m2 Q ⟨fun _ => ?_, fun q => by omega⟩
      refine hQ m2 (fun q g1 g2 g3 g4 => ?_) (fun j g1 g2 => ?_) ⟨?_, ?_⟩
      · rw [hf q g3 g4, f1 q g1 g2]
      · rw [hf p (by omega) (by omega), f2 j g1 g2]
      · unfold plL at hL ⊢
        rw [hf p (by omega) (by omega), hf (p + 1) (by omega) (by omega), hf (p + 3) (by omega) (by omega)]
        exact hL
      · exact fun s hs hsub => hd s hs (by unfold mk8 at hs; omega) hsub
    | succ r ih =>
      intro x m2 hx hx2 hf hd
      have hs8 : mk8 x := by unfold mk8; omega
      have e1 : w32 (x + (-1)) = x - 1 := by rw [w32_id (by omega) (by omega)]; omega
      have hL2 : plL p m2 8 := by
        unfold plL at hL ⊢
        rw [hf p (by omega) (by omega), hf (p + 1) (by omega) (by omega), hf (p + 3) (by omega) (by omega)]
        exact hL
      have next : ∀ m3 : jM, (∀ q, q ≠ p + 4 → q ≠ p + 5 → m3 q = m1 q) → (∀ s, mk8 s → x - 1 < s → sub8 s (m3 p 3) → pEn h p m3 s) → aX4_weigh_8 (d + 2) p h (w32 (x + (-1))) m3 Q := by
        intro m3 g1 g2
        rw [e1]
        exact ih (x - 1) m3 (by omega) (by omega) g1 g2
      have upd : ∀ v w : Int, (sub8 x (m2 p 3) → v = toN (dpt h (pO (m2 (p + 3))) (rB (m2 (p + 2))) (bt (m2 p 0)) (pLv p m2 (pc8 x)) x).1 ∧ w = (dpt h (pO (m2 (p + 3))) (rB (m2 (p + 2))) (bt (m2 p 0)) (pLv p m2 (pc8 x)) x).2) → aX4_weigh_8 (d + 2) p h (w32 (x + (-1))) (jUp (jUp m2 (p + 4) x v) (p + 5) x w) Q := by
        intro v w hvw
        refine next _ (fun q g1 g2 => ?_) (fun s hs hlt hsub => ?_)
        · rw [up_ne g2, up_ne g1]; exact hf q g1 g2
        · unfold pEn pLv
          unfold pEn pLv at hd
          unfold pLv at hvw
          simp (disch := omega) only [up_ne] at hsub ⊢
          rw [up_eq]
          by_cases hse : s = x
          · subst hse
            simp only [up_eq, reduceIte]
            exact hvw hsub
          · simp (disch := omega) only [up_eq, up_ne, if_neg hse]
            exact hd s hs (by omega) hsub
      refine gX4_weigh_8 (d + 2) p h x m2 Q ⟨fun q => by omega, fun _ => jK_deep (show d + 1 ≤ d + 2 by omega) (s_canTake ⟨fun q2 => ?_, fun q2 => ?_⟩)⟩
      · rw [bI_0, bs_iff hs8] at q2
        refine next m2 hf (fun s hs hlt hsub => ?_)
        by_cases hse : s = x
        · subst hse; exact absurd hsub q2
        · exact hd s hs (by omega) hsub
      · rw [bI_0, Classical.not_not, bs_iff hs8] at q2
        have hpr := pc8_r x
        refine jK_deep (show d + 1 ≤ d + 2 by omega) (s_bc hs8 ⟨fun q3 => ?_, fun q3 => ⟨hs8, hs8, ?_⟩⟩)
        · have hL3 := hL2
          obtain ⟨a1, a2, a3, a4⟩ := hL3
          obtain ⟨b1, b2, b3, b4⟩ := a3 (pc8 x) (by omega) q3
          have hcn := pcn_nn (bt (m2 p 0)) (8 : Int).toNat
          have hm1 : m2 p 1 ≤ 8 := by rw [a1]; have := hcn.2; exact this
          refine ⟨by omega, ?_⟩
          have hB2 : dpB (pO (m2 (p + 3))) (rB (m2 (p + 2))) := by
            rw [hf (p + 3) (by omega) (by omega), hf (p + 2) (by omega) (by omega), f3, f2']; exact hB
          refine s_weighFrom (T := dpt h (pO (m2 (p + 3))) (rB (m2 (p + 2))) (bt (m2 p 0)) (7 - m2 (p + 1) (pc8 x)).toNat) (k := (7 - m2 (p + 1) (pc8 x)).toNat) (by omega) hs8 (by omega) hB2 (fun s hs => dpt_r hB2 _ (by omega) s hs) (fun j g1 g2 g3 g4 => ?_) (upd _ _ (fun _ => ?_))
          · have hopen : bt (m2 p 3) j = true := (a4 j g1 g2).mpr ⟨_, b1, b2, b3, g3⟩
            have := hd (iOr x (iShl 1 j)) (mk_or1 hs8 ⟨g1, g2⟩) (mk_lt hs8 ⟨g1, g2⟩ g4) (sub_or1 ⟨g1, g2⟩ q2 hopen)
            unfold pEn at this
            rw [pc8_1 ⟨g1, g2⟩ g4] at this
            rw [pLv_next hL2 (by omega) q3]
            exact this
          · have e5 : pLv p m2 (pc8 x) = (7 - m2 (p + 1) (pc8 x)).toNat + 1 := by unfold pLv; rw [if_pos q3]; omega
            have e6 : (7 - (((7 - m2 (p + 1) (pc8 x)).toNat : Nat) : Int)) = m2 (p + 1) (pc8 x) := by omega
            rw [e5, dpt_s, e6, if_pos b3]
            exact ⟨rfl, rfl⟩
        · refine upd _ _ (fun _ => ?_)
          have e5 : pLv p m2 (pc8 x) = 0 := by unfold pLv; rw [if_neg q3]
          rw [e5]
          exact ⟨by rw [show (dpt h (pO (m2 (p + 3))) (rB (m2 (p + 2))) (bt (m2 p 0)) 0 x).1 = 0 from rfl, toN_n (by unfold dpF; omega)], rfl⟩
  exact loop 256 255 m1 (by omega) (by omega) (fun _ _ _ => rfl) (fun s hs hlt _ => by unfold mk8 at hs; omega)

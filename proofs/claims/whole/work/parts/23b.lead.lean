/-! the class's plan: the first lead; a part's first one is found judge by judge -/
theorem bt_fl {r s S j : Int} (hj : 0 ≤ j ∧ j < 8) : iAnd (iShr (iAnd (iAnd r (iXor s (-1))) (iXor S (-1))) j) 1 = 0 ↔ ¬ (bt r j = true ∧ bt s j = false ∧ bt S j = false) := by
  rw [bt_sh0 (by omega), bt_and, bt_and, bt_xor, bt_xor, bt_ones (by omega)]
  cases bt r j <;> cases bt s j <;> cases bt S j <;> simp
def fgd (r s S j : Int) : Prop := bt r j = true ∧ bt s j = false ∧ bt S j = false
theorem s_firstLead {d : Nat} {p s c S : Int} {m : jM} {T : Int → Int} {Q : Int → jM → Prop} (hW : pW 0 p m) (hB : dpB (pO (m (p + 3))) (rB (m (p + 2)))) (hs : mk8 s) (hsub : sub8 s (m p 3)) (ht : pc8 s < m p 1) (hc : m (p + 1) (pc8 s) = c)
    (hT : ∀ j, T j = (dpt 0 (pO (m (p + 3))) (rB (m (p + 2))) (bt (m p 0)) (pLv p m (pc8 s + 1)) (iOr s (iShl 1 j))).1)
    (h1 : (∀ j : Int, 0 ≤ j → j < 8 → fgd (m (p + 3) c) s S j → T j = dpF) → Q (-1) m)
    (h2 : ∀ f : Int, 0 ≤ f → f < 8 → fgd (m (p + 3) c) s S f → T f ≠ dpF → (∀ j : Int, 0 ≤ j → j < 8 → fgd (m (p + 3) c) s S j → T j ≠ dpF → m (p + 2) (8 * f + c) + T f < m (p + 2) (8 * j + c) + T j ∨ (m (p + 2) (8 * f + c) + T f = m (p + 2) (8 * j + c) + T j ∧ f ≤ j)) → Q f m) :
    jK (d + 1) zX4_firstLead [jO 4 p, jI s, jI c, jI S] m Q := by
  obtain ⟨hL, hE⟩ := hW
  have hpr := pc8_r s
  obtain ⟨b1, b2, b3, b4⟩ := hL.2.2.1 (pc8 s) hpr.1 ht
  obtain ⟨e, ee1, ee2⟩ := pLv_sk hL hpr.1 ht
  rw [hc] at b1 b2 b3 b4 ee1
  have hk8 : pLv p m (pc8 s + 1) ≤ 8 := by omega
  have hTt : ∀ j : Int, 0 ≤ j → j < 8 → bt (m (p + 3) c) j = true → bt s j = false → m (p + 4) (iOr s (iShl 1 j)) = toN (T j) ∧ ((0 ≤ T j ∧ T j ≤ 8000000000) ∨ T j = dpF) ∧ (toN (T j) = -4611686018427387904 ↔ T j = dpF) := by
    intro j g1 g2 g3 g4
    have hor := mk_or1 hs (k := j) ⟨g1, g2⟩
    have hopen := plL_open hL hpr.1 ht (j := j) ⟨g1, g2⟩ (by rw [hc]; exact g3)
    have hEt := hE _ hor (sub_or1 ⟨g1, g2⟩ hsub hopen)
    unfold pEn at hEt
    rw [pc8_1 ⟨g1, g2⟩ g4] at hEt
    have hR := dpt_r (h := 0) (C := bt (m p 0)) hB _ hk8 _ hor
    have hno := toN_no hR
    have hR1 := hR.1
    rw [← hT] at hEt hno hR1
    refine ⟨hEt.1, ?_, hno⟩
    rcases hR1 with g | g
    · left; omega
    · right; exact g
  have hBb : ∀ j : Int, 0 ≤ j → j < 8 → bt (m (p + 3) c) j = true → 0 ≤ m (p + 2) (8 * j + c) ∧ m (p + 2) (8 * j + c) ≤ 1000000000 := fun j g1 g2 g3 => hB j c g1 g2 (by omega) (by omega) g3
  have loop : ∀ (r : Nat) (f low j : Int), 0 ≤ j → j + r = 8 → ((f = -1 ∧ ∀ x : Int, 0 ≤ x → x < j → fgd (m (p + 3) c) s S x → T x = dpF) ∨ ((0 ≤ f ∧ f < j) ∧ fgd (m (p + 3) c) s S f ∧ T f ≠ dpF ∧ low = m (p + 2) (8 * f + c) + T f ∧ ∀ x : Int, 0 ≤ x → x < j → fgd (m (p + 3) c) s S x → T x ≠ dpF → low < m (p + 2) (8 * x + c) + T x ∨ (low = m (p + 2) (8 * x + c) + T x ∧ f ≤ x))) →
      aX4_firstLead_27 d p s c f low (iAnd (iAnd (m (p + 3) c) (iXor s (-1))) (iXor S (-1))) j m Q := by
    intro r
    induction r with
    | zero =>
      intro f low j hj hr hI
      refine gX4_firstLead_27 d p s c f low _ j m Q ⟨fun q => by omega, fun _ => ?_⟩
      rcases hI with ⟨rfl, g⟩ | ⟨g1, g2, g3, g4, g5⟩
      · exact h1 (fun x k1 k2 => g x k1 (by omega))
      · refine h2 f g1.1 (by omega) g2 g3 (fun x k1 k2 k3 k4 => ?_)
        rw [← g4]
        exact g5 x k1 (by omega) k3 k4
    | succ r ih =>
      intro f low j hj hr hI
      have ej : w32 (j + 1) = j + 1 := w32_id (by omega) (by omega)
      have hor := mk_or1 hs (k := j) ⟨by omega, by omega⟩
      have hor2 : 0 ≤ iOr s (iShl 1 j) ∧ iOr s (iShl 1 j) < 256 := hor
      have e1 : w32 (w32 (j * 8) + c) = 8 * j + c := by simp (disch := omega) only [w32_id]; omega
      -- a judge that isn't one
      have skip : (fgd (m (p + 3) c) s S j → T j = dpF) → aX4_firstLead_27 d p s c f low (iAnd (iAnd (m (p + 3) c) (iXor s (-1))) (iXor S (-1))) (w32 (j + 1)) m Q := by
        intro hn
        rw [ej]
        refine ih f low (j + 1) (by omega) (by omega) ?_
        rcases hI with ⟨g0, g⟩ | ⟨g1, g2, g3, g4, g5⟩
        · left
          refine ⟨g0, fun x k1 k2 k3 => ?_⟩
          by_cases hx : x = j
          · rw [hx] at k3 ⊢; exact hn k3
          · exact g x k1 (by omega) k3
        · right
          refine ⟨by omega, g2, g3, g4, fun x k1 k2 k3 k4 => ?_⟩
          by_cases hx : x = j
          · rw [hx] at k3 k4; exact absurd (hn k3) k4
          · exact g5 x k1 (by omega) k3 k4
      refine gX4_firstLead_27 d p s c f low _ j m Q ⟨fun _ => ⟨fun q => skip (fun g => ?_), fun q => ⟨hor2, fun q2 => skip (fun g => ?_), fun q2 => ⟨by rw [e1]; omega, hor2, fun q3 => ?_, fun q3 => ⟨fun q4 => ?_, fun q4 => ?_⟩⟩⟩⟩, fun q => by omega⟩
      · rw [bt_fl ⟨by omega, by omega⟩] at q
        exact absurd g q
      · obtain ⟨t1, t2, t3⟩ := hTt j (by omega) (by omega) g.1 g.2.1
        rw [t1] at q2
        exact t3.mp q2
      all_goals
        rw [bt_fl ⟨by omega, by omega⟩, Classical.not_not] at q
        obtain ⟨t1, t2, t3⟩ := hTt j (by omega) (by omega) q.1 q.2.1
        rw [t1, t3] at q2
        have hb := hBb j (by omega) (by omega) q.1
        have t4 := t2.resolve_right q2
        try rw [e1, t1, toN_n q2, w64_id (by omega) (by omega)] at q4
        try rw [e1, t1, toN_n q2, w64_id (by omega) (by omega)]
        rw [ej]
        refine ih _ _ (j + 1) (by omega) (by omega) (Or.inr ?_)
        rcases hI with ⟨g0, g⟩ | ⟨g1, g2, g3, g4, g5⟩
      · refine ⟨by omega, q, q2, rfl, fun x k1 k2 k3 k4 => ?_⟩
        by_cases hx : x = j
        · rw [hx]; right; exact ⟨rfl, Int.le_refl _⟩
        · exact absurd (g x k1 (by omega) k3) k4
      · omega
      · exact absurd g0 q3
      · refine ⟨by omega, q, q2, rfl, fun x k1 k2 k3 k4 => ?_⟩
        by_cases hx : x = j
        · rw [hx]; right; exact ⟨rfl, Int.le_refl _⟩
        · have := g5 x k1 (by omega) k3 k4; omega
      · exact absurd g0 q3
      · refine ⟨by omega, g2, g3, g4, fun x k1 k2 k3 k4 => ?_⟩
        by_cases hx : x = j
        · rw [hx]; omega
        · exact g5 x k1 (by omega) k3 k4
  exact gX4_firstLead d p s c S m Q ⟨⟨b1, b2⟩, loop 8 (-1) _ 0 (by omega) (by omega) (Or.inl ⟨rfl, fun x k1 k2 => by omega⟩)⟩
theorem lc_ex {f : List Int → Int} {L : List (List Int)} {x : Int × Int} (h : lcF f L x) : ∃ l ∈ L, f l = x.1 := by
  obtain ⟨_, _, h3, h4⟩ := h
  rw [h4] at h3
  obtain ⟨l, hl, hP⟩ := flt_ex.mp (show 0 < (L.filter (fun l => decide (f l = x.1))).length by omega)
  exact ⟨l, hl, of_decide_eq_true hP⟩
theorem mts_dec {o : Int → Int → Bool} {C : Int → Bool} {c u : Int} {k e : Nat} (hc : 0 ≤ c ∧ c < 8) (hC : C c = true) (hK : (7 - c).toNat = k + e) (he : ∀ c' : Int, 8 - ((k : Int) + e) ≤ c' → c' < 8 - k → C c' = false) {r : List Int} :
    r ∈ mts o C ((7 - c).toNat + 1) u ↔ ∃ (j : Int) (r' : List Int), (0 ≤ j ∧ j < 8) ∧ bt u j = false ∧ o j c = true ∧ r' ∈ mts o C k (iOr u (iShl 1 j)) ∧ r = j :: (List.replicate e (-1) ++ r') := by
  have e7 : 7 - (((7 - c).toNat : Nat) : Int) = c := by omega
  rw [mts_s, e7, if_pos hC, fm_mem, hK]
  constructor
  · rintro ⟨j, hj, h⟩
    split at h
    · rename_i hg
      obtain ⟨l', h1, rfl⟩ := List.mem_map.mp h
      rw [mts_rep _ _ he] at h1
      obtain ⟨r', h2, rfl⟩ := List.mem_map.mp h1
      exact ⟨j, r', by omega, hg.1, hg.2, h2, rfl⟩
    · cases h
  · rintro ⟨j, r', hj, g1, g2, g3, rfl⟩
    refine ⟨j.toNat, by omega, ?_⟩
    rw [Int.toNat_of_nonneg hj.1, if_pos ⟨g1, g2⟩]
    refine List.mem_map.mpr ⟨_, ?_, rfl⟩
    rw [mts_rep _ _ he]
    exact List.mem_map.mpr ⟨r', g3, rfl⟩
theorem tot_dec {b : Int → Int → Int} {c : Int} {k e : Nat} (hc : 0 ≤ c ∧ c < 8) (hK : (7 - c).toNat = k + e) {j : Int} (hj : 0 ≤ j) (r' : List Int) : tot b ((7 - c).toNat + 1) (j :: (List.replicate e (-1) ++ r')) = b j c + tot b k r' := by
  have e7 : 7 - (((7 - c).toNat : Nat) : Int) = c := by omega
  show (if j = -1 then 0 else b j (7 - (((7 - c).toNat : Nat) : Int))) + tot b (7 - c).toNat (List.replicate e (-1) ++ r') = _
  rw [if_neg (by omega), e7, hK, tot_rep]
/-- the first t cases IN have their judges: those before case t by number (OUT ones too) stand in pre -/
def nA (m : jM) (t : Int) (pre : List Int) (u s : Int) : Prop := (pLv 54 m t ≤ 8 ∧ pre.length = 8 - pLv 54 m t) ∧ mk8 u ∧ sub8 u (m 54 3) ∧ pc8 u = t ∧ (0 ≤ s ∧ s ≤ 1000000000 * t) ∧ (∀ r ∈ mts (pO (m 57)) (bt (m 54 0)) (pLv 54 m t) u, pre ++ r ∈ mts (pO (m 57)) (bt (m 54 0)) 8 0) ∧ ∀ r ∈ mts (pO (m 57)) (bt (m 54 0)) (pLv 54 m t) u, tot (rB (m 56)) 8 (pre ++ r) = s + tot (rB (m 56)) (pLv 54 m t) r
theorem nA_0 {m : jM} (hP : plL 54 m 8) : ∃ e : Nat, nA m 0 (List.replicate e (-1)) 0 0 ∧ ∀ l ∈ mts (pO (m 57)) (bt (m 54 0)) 8 0, ∃ r ∈ mts (pO (m 57)) (bt (m 54 0)) (pLv 54 m 0) 0, l = List.replicate e (-1) ++ r := by
  obtain ⟨e, ee1, ee2⟩ := pLv_sk0 hP
  have em := mts_rep (o := pO (m 57)) (C := bt (m 54 0)) (s := 0) _ _ ee2
  rw [← ee1] at em
  refine ⟨e, ⟨⟨by omega, by rw [List.length_replicate]; omega⟩, mk_0, fun j _ _ g => (by rw [bt_0] at g; cases g), pc8_0, by omega, fun r hr => ?_, fun r _ => ?_⟩, fun l hl => ?_⟩
  · rw [em]; exact List.mem_map.mpr ⟨r, hr, rfl⟩
  · have := tot_rep (rB (m 56)) (pLv 54 m 0) e r
    rw [← ee1] at this
    rw [this, Int.zero_add]
  · rw [em] at hl
    obtain ⟨r, hr, rfl⟩ := List.mem_map.mp hl
    exact ⟨r, hr, rfl⟩
theorem nA_lv {m : jM} (hP : plL 54 m 8) {t : Int} (h0 : 0 ≤ t) (ht : t < m 54 1) : (0 ≤ m 55 t ∧ m 55 t < 8) ∧ bt (m 54 0) (m 55 t) = true ∧ pLv 54 m t = (7 - m 55 t).toNat + 1 ∧ ∃ e : Nat, (7 - m 55 t).toNat = pLv 54 m (t + 1) + e ∧ ∀ c : Int, 8 - (((pLv 54 m (t + 1) : Nat) : Int) + e) ≤ c → c < 8 - (pLv 54 m (t + 1) : Nat) → bt (m 54 0) c = false := by
  obtain ⟨b1, b2, b3, b4⟩ := hP.2.2.1 t h0 ht
  have hc : m (54 + 1) t = m 55 t := rfl
  rw [hc] at b1 b2 b3 b4
  refine ⟨⟨b1, b2⟩, b3, ?_, ?_⟩
  · unfold pLv; rw [if_pos ht, hc]; omega
  · have := pLv_sk hP h0 ht
    rw [hc] at this
    exact this
theorem nA_s {m : jM} (hP : plL 54 m 8) (hB : dpB (pO (m 57)) (rB (m 56))) {t c u s j : Int} {pre : List Int} {e : Nat} (h0 : 0 ≤ t) (ht : t < m 54 1) (hc : m 55 t = c) (h : nA m t pre u s) (hj : 0 ≤ j ∧ j < 8) (hu : bt u j = false) (hb : bt (m 57 c) j = true) (hK : (7 - c).toNat = pLv 54 m (t + 1) + e) (he : ∀ c' : Int, 8 - (((pLv 54 m (t + 1) : Nat) : Int) + e) ≤ c' → c' < 8 - (pLv 54 m (t + 1) : Nat) → bt (m 54 0) c' = false) :
    nA m (t + 1) (pre ++ j :: List.replicate e (-1)) (iOr u (iShl 1 j)) (s + m 56 (8 * j + c)) := by
  obtain ⟨⟨a0, a1⟩, a2, a3, a4, a5, a6, a7⟩ := h
  obtain ⟨b1, b2, b3, _⟩ := nA_lv hP h0 ht
  rw [hc] at b1 b2 b3
  rw [b3] at a0 a1 a6 a7
  have hopen := plL_open hP h0 ht hj (show bt (m (54 + 3) (m (54 + 1) t)) j = true by rw [show m (54 + 1) t = c from hc]; exact hb)
  have hbj : 0 ≤ m 56 (8 * j + c) ∧ m 56 (8 * j + c) ≤ 1000000000 := hB j c hj.1 hj.2 b1.1 b1.2 hb
  have app : ∀ r : List Int, (pre ++ j :: List.replicate e (-1)) ++ r = pre ++ j :: (List.replicate e (-1) ++ r) := fun r => by
    rw [List.append_assoc, List.cons_append]
  have hmem : ∀ r ∈ mts (pO (m 57)) (bt (m 54 0)) (pLv 54 m (t + 1)) (iOr u (iShl 1 j)), j :: (List.replicate e (-1) ++ r) ∈ mts (pO (m 57)) (bt (m 54 0)) ((7 - c).toNat + 1) u := fun r hr => (mts_dec b1 b2 hK he).mpr ⟨j, r, hj, hu, hb, hr, rfl⟩
  refine ⟨⟨by omega, ?_⟩, mk_or1 a2 hj, sub_or1 hj a3 hopen, by rw [pc8_1 hj hu, a4], by omega, fun r hr => ?_, fun r hr => ?_⟩
  · rw [List.length_append, List.length_cons, List.length_replicate, a1]; omega
  · rw [app]; exact a6 _ (hmem r hr)
  · rw [app, a7 _ (hmem r hr), tot_dec b1 hK hj.1]
    show s + (m 56 (8 * j + c) + _) = _
    omega
theorem pre_get {pre : List Int} {c j : Int} {e : Nat} (hl : pre.length = c.toNat) (hc : 0 ≤ c) {x : Int} (hx : 0 ≤ x) : (pre ++ j :: List.replicate e (-1)).getD x.toNat (-1) = if x < c then pre.getD x.toNat (-1) else if x = c then j else -1 := by
  rw [List.getD_eq_getElem?_getD, List.getElem?_append]
  by_cases h1 : x < c
  · rw [if_pos h1, if_pos (by omega), ← List.getD_eq_getElem?_getD]
  · rw [if_neg h1, if_neg (by omega)]
    by_cases h2 : x = c
    · rw [if_pos h2, show x.toNat - pre.length = 0 by omega]
      rfl
    · rw [if_neg h2, show x.toNat - pre.length = (x.toNat - pre.length - 1) + 1 by omega, List.getElem?_cons_succ, List.getElem?_replicate]
      split <;> rfl
theorem pre_beyond {pre : List Int} {x : Int} (h : (pre.length : Int) ≤ x) : pre.getD x.toNat (-1) = -1 := by
  rw [List.getD_eq_getElem?_getD, List.getElem?_eq_none (by omega)]
  rfl
theorem app_at {pre r : List Int} {c : Int} (hl : pre.length = c.toNat) : (pre ++ r).getD c.toNat (-1) = r.getD 0 (-1) := by
  rw [List.getD_eq_getElem?_getD, List.getElem?_append, if_neg (by omega), ← hl, Nat.sub_self, ← List.getD_eq_getElem?_getD]
theorem app_lt {pre r : List Int} {n : Nat} (h : n < pre.length) : (pre ++ r).getD n (-1) = pre.getD n (-1) := by
  rw [List.getD_eq_getElem?_getD, List.getElem?_append, if_pos h, ← List.getD_eq_getElem?_getD]
/-- who is in a part: the first t cases IN as in x, case t by none of S -/
def wP (n : Int) (od : Int → Int) (x : List Int) (t S : Int) (l : List Int) : Prop := (∀ v : Int, 0 ≤ v → v < t → l.getD (od v).toNat (-1) = x.getD (od v).toNat (-1)) ∧ (t < n → bt S (l.getD (od t).toNat (-1)) = false)
/-- one judge more: the least way goes on with the first of the least leads -/
theorem ld_step {m : jM} (hP : plL 54 m 8) (hB : dpB (pO (m 57)) (rB (m 56))) {t c u s S j : Int} {pre : List Int} {e : Nat} {T : Int → Int} {D : List Int → Prop} (h0 : 0 ≤ t) (ht : t < m 54 1) (hc : m 55 t = c) (h : nA m t pre u s)
    (hT : ∀ j, T j = (dpt 0 (pO (m 57)) (rB (m 56)) (bt (m 54 0)) (pLv 54 m (t + 1)) (iOr u (iShl 1 j))).1)
    (hK : (7 - c).toNat = pLv 54 m (t + 1) + e) (he : ∀ c' : Int, 8 - (((pLv 54 m (t + 1) : Nat) : Int) + e) ≤ c' → c' < 8 - (pLv 54 m (t + 1) : Nat) → bt (m 54 0) c' = false)
    (hj : 0 ≤ j ∧ j < 8) (hf : fgd (m 57 c) u S j) (hTj : T j ≠ dpF)
    (hmin : ∀ i : Int, 0 ≤ i → i < 8 → fgd (m 57 c) u S i → T i ≠ dpF → m 56 (8 * j + c) + T j < m 56 (8 * i + c) + T i ∨ (m 56 (8 * j + c) + T j = m 56 (8 * i + c) + T i ∧ j ≤ i))
    (c1 : ∀ r ∈ mts (pO (m 57)) (bt (m 54 0)) (pLv 54 m t) u, bt S (r.getD 0 (-1)) = false → D (pre ++ r))
    (c2 : ∀ l ∈ mts (pO (m 57)) (bt (m 54 0)) 8 0, D l → ∃ r ∈ mts (pO (m 57)) (bt (m 54 0)) (pLv 54 m t) u, bt S (r.getD 0 (-1)) = false ∧ (pre ++ r = l ∨ ltk (tot (rB (m 56)) 8) (pre ++ r) l)) :
    (∀ r ∈ mts (pO (m 57)) (bt (m 54 0)) (pLv 54 m (t + 1)) (iOr u (iShl 1 j)), D ((pre ++ j :: List.replicate e (-1)) ++ r)) ∧
    ∀ l ∈ mts (pO (m 57)) (bt (m 54 0)) 8 0, D l → ∃ r ∈ mts (pO (m 57)) (bt (m 54 0)) (pLv 54 m (t + 1)) (iOr u (iShl 1 j)), (pre ++ j :: List.replicate e (-1)) ++ r = l ∨ ltk (tot (rB (m 56)) 8) ((pre ++ j :: List.replicate e (-1)) ++ r) l := by
  obtain ⟨b1, b2, b3, _⟩ := nA_lv hP h0 ht
  rw [hc] at b1 b2 b3
  have hA := nA_s hP hB h0 ht hc h hj hf.2.1 hf.1 hK he
  have hk8 : pLv 54 m (t + 1) ≤ 8 := hA.1.1
  have a2 := h.2.1
  have a7 := h.2.2.2.2.2.2
  have app : ∀ r : List Int, (pre ++ j :: List.replicate e (-1)) ++ r = pre ++ j :: (List.replicate e (-1) ++ r) := fun r => by
    rw [List.append_assoc, List.cons_append]
  have hmem : ∀ r ∈ mts (pO (m 57)) (bt (m 54 0)) (pLv 54 m (t + 1)) (iOr u (iShl 1 j)), j :: (List.replicate e (-1) ++ r) ∈ mts (pO (m 57)) (bt (m 54 0)) (pLv 54 m t) u := fun r hr => by
    rw [b3]; exact (mts_dec b1 b2 hK he).mpr ⟨j, r, hj, hf.2.1, hf.1, hr, rfl⟩
  refine ⟨fun r hr => ?_, fun l hl hD => ?_⟩
  · rw [app]
    exact c1 _ (hmem r hr) hf.2.2
  · obtain ⟨r, hr, hrS, hrl⟩ := c2 l hl hD
    have hr' := hr
    rw [b3, mts_dec b1 b2 hK he] at hr'
    obtain ⟨i, r1, hi, hi1, hi2, hr1, rfl⟩ := hr'
    by_cases hij : i = j
    · subst hij
      exact ⟨r1, hr1, by rw [app]; exact hrl⟩
    · have hlci := lc_mts (C := bt (m 54 0)) hB _ hk8 _ (mk_or1 a2 hi)
      have hlcj := lc_mts (C := bt (m 54 0)) hB _ hk8 _ (mk_or1 a2 hj)
      have hTi : T i < dpF ∧ T i ≤ tot (rB (m 56)) (pLv 54 m (t + 1)) r1 := by
        rcases hlci with ⟨g, _⟩ | g
        · rw [g] at hr1; cases hr1
        · rw [hT]; exact ⟨g.1, g.2.1 _ hr1⟩
      have hex : ∃ r2 ∈ mts (pO (m 57)) (bt (m 54 0)) (pLv 54 m (t + 1)) (iOr u (iShl 1 j)), tot (rB (m 56)) (pLv 54 m (t + 1)) r2 = T j := by
        rcases hlcj with ⟨_, g⟩ | g
        · exact absurd (by rw [hT, g]) hTj
        · obtain ⟨r2, h2, h3⟩ := lc_ex g
          exact ⟨r2, h2, by rw [h3, hT]⟩
      obtain ⟨r2, hr2, ht2⟩ := hex
      have hm := hmin i hi.1 hi.2 ⟨hi2, hi1, hrS⟩ (by omega)
      have e1 := a7 _ hr
      have e2 := a7 _ (hmem r2 hr2)
      rw [b3, tot_dec b1 hK hi.1] at e1
      rw [b3, tot_dec b1 hK hj.1, ht2] at e2
      have v1 : rB (m 56) i c = m 56 (8 * i + c) := rfl
      have v2 : rB (m 56) j c = m 56 (8 * j + c) := rfl
      rw [v1] at e1
      rw [v2] at e2
      have hlt : ltk (tot (rB (m 56)) 8) (pre ++ j :: (List.replicate e (-1) ++ r2)) (pre ++ i :: (List.replicate e (-1) ++ r1)) := by
        by_cases hs : tot (rB (m 56)) 8 (pre ++ j :: (List.replicate e (-1) ++ r2)) < tot (rB (m 56)) 8 (pre ++ i :: (List.replicate e (-1) ++ r1))
        · exact Or.inl hs
        · refine Or.inr ⟨by omega, lxl_app (Or.inl ?_)⟩
          omega
      refine ⟨r2, hr2, Or.inr ?_⟩
      rw [app]
      rcases hrl with g | g
      · rw [← g]; exact hlt
      · exact ltk_tr hlt g

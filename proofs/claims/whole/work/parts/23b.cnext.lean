/-! the class's NextOnes -/
noncomputable def tpo (f : List Int → Int) (L : List (List Int)) : List (List Int) := Classical.epsilon (fun T => Top f L T)
theorem tpo_eq {f : List Int → Int} {L T : List (List Int)} (h : Top f L T) : tpo f L = T := top_uniq (Classical.epsilon_spec (p := fun T => Top f L T) ⟨T, h⟩) h
theorem tot_rep (b : Int → Int → Int) (k e : Nat) (l : List Int) : tot b (k + e) (List.replicate e (-1) ++ l) = tot b k l := by
  induction e with
  | zero => rfl
  | succ e ih =>
    rw [show k + (e + 1) = (k + e) + 1 by omega]
    show (if (-1 : Int) = -1 then 0 else b (-1) (7 - ((k + e : Nat) : Int))) + tot b (k + e) (List.replicate e (-1) ++ l) = _
    rw [if_pos rfl, ih, Int.zero_add]
theorem mts_rep {o : Int → Int → Bool} {C : Int → Bool} {s : Int} (k e : Nat) (hC : ∀ c : Int, 8 - ((k : Int) + e) ≤ c → c < 8 - k → C c = false) : mts o C (k + e) s = (mts o C k s).map (fun l => List.replicate e (-1) ++ l) := by
  induction e with
  | zero => simp
  | succ e ih =>
    rw [show k + (e + 1) = (k + e) + 1 by omega, mts_s, if_neg (by rw [hC _ (by omega) (by omega)]; simp), ih (fun c g1 g2 => hC c (by omega) g2), List.map_map]
    rfl
theorem lxl_rep {e : Nat} {x y : List Int} (h : lxl x y) : lxl (List.replicate e (-1) ++ x) (List.replicate e (-1) ++ y) := lxl_app h
def nLv (m : jM) (v : Int) : Nat := pLv 54 m (pc8 v)
noncomputable def nLV (m : jM) (v : Int) : List (List Int) := tpo (tot (rB (m 56)) (nLv m v)) (mts (pO (m 57)) (bt (m 54 0)) (nLv m v) v)
/-- what a step of way i of set v says -/
def nSt (m m1 : jM) (v c i : Int) (l : List Int) : Prop := (0 ≤ m1 84 (v * 12 + i) ∧ m1 84 (v * 12 + i) < 8) ∧ bt v (m1 84 (v * 12 + i)) = false ∧ bt (m 57 c) (m1 84 (v * 12 + i)) = true ∧ (0 ≤ m1 85 (v * 12 + i) ∧ m1 85 (v * 12 + i) < (nLV m (iOr v (iShl 1 (m1 84 (v * 12 + i))))).length) ∧
  l = m1 84 (v * 12 + i) :: (List.replicate ((7 - c).toNat - pLv 54 m (pc8 v + 1)) (-1) ++ gtD (nLV m (iOr v (iShl 1 (m1 84 (v * 12 + i))))) (m1 85 (v * 12 + i)))
def nOk (m m1 : jM) (v : Int) : Prop := Top (tot (rB (m 56)) (nLv m v)) (mts (pO (m 57)) (bt (m 54 0)) (nLv m v) v) (nLV m v) ∧ m1 82 v = (nLV m v).length ∧
  ∀ i : Int, 0 ≤ i → i < (nLV m v).length → m1 83 (v * 12 + i) = tot (rB (m 56)) (nLv m v) (gtD (nLV m v) i) ∧ (pc8 v < m 54 1 → nSt m m1 v (m 55 (pc8 v)) i (gtD (nLV m v) i))
theorem nOk_frame {m m1 m2 : jM} {v : Int} (h : nOk m m1 v) (h0 : m2 82 v = m1 82 v) (h1 : ∀ i : Int, 0 ≤ i → i < 12 → m2 83 (v * 12 + i) = m1 83 (v * 12 + i) ∧ m2 84 (v * 12 + i) = m1 84 (v * 12 + i) ∧ m2 85 (v * 12 + i) = m1 85 (v * 12 + i)) : nOk m m2 v := by
  obtain ⟨a1, a2, a3⟩ := h
  refine ⟨a1, by rw [h0]; exact a2, fun i g1 g2 => ?_⟩
  obtain ⟨b1, b2, b3⟩ := h1 i g1 (by have := a1.2.2.1; omega)
  have := a3 i g1 g2
  unfold nSt at this ⊢
  rw [b1, b2, b3]
  exact this
theorem s_headTotal {d : Nat} {u c j : Int} {m m1 : jM} {Lf : Int → List (List Int)} {k : Nat} {Q : Int → jM → Prop} (hr : mk8 (m 57 c)) (hu : mk8 u) (hc : 0 ≤ c ∧ c < 8) (hj : 0 ≤ j ∧ j < 8) (f56 : m1 56 = m 56) (f57 : m1 57 = m 57) (h0 : 0 ≤ m1 86 j)
    (hBj : bt u j = false → bt (m 57 c) j = true → 0 ≤ m 56 (8 * j + c) ∧ m 56 (8 * j + c) ≤ 1000000000)
    (hLf : ¬ (bt u j = false ∧ bt (m 57 c) j = true) → Lf j = [])
    (hok : bt u j = false → bt (m 57 c) j = true → (Lf j).length ≤ 12 ∧ m1 82 (iOr u (iShl 1 j)) = (Lf j).length ∧ ∀ i : Int, 0 ≤ i → i < (Lf j).length → (0 ≤ m1 83 (iOr u (iShl 1 j) * 12 + i) ∧ m1 83 (iOr u (iShl 1 j) * 12 + i) ≤ 8000000000) ∧ m 56 (8 * j + c) + m1 83 (iOr u (iShl 1 j) * 12 + i) = tot (rB (m 56)) (k + 1) (gtD (Lf j) i))
    (h : Q (if m1 86 j < (Lf j).length then tot (rB (m 56)) (k + 1) (gtD (Lf j) (m1 86 j)) else -4611686018427387904) m1) : jK (d + 1) zX3_headTotal [jO 3 81, jO 4 54, jI u, jI c, jI j] m1 Q := by
  have hor := mk_or1 hu hj
  have hor2 : 0 ≤ iOr u (iShl 1 j) ∧ iOr u (iShl 1 j) < 256 := hor
  have e1 : w32 (w32 (j * 8) + c) = 8 * j + c := by simp (disch := omega) only [w32_id]; omega
  refine gX3_headTotal d u c j m1 Q ⟨by omega, fun q => ?_, fun q => ⟨by omega, hor, fun q2 => ⟨by omega, by omega, ?_, ?_⟩, fun q2 => ?_⟩⟩
  · rw [f57, bt_lead hj hr] at q
    rw [hLf (fun g => q ⟨g.2, g.1⟩), if_neg (by simp; omega)] at h
    exact h
  all_goals
    rw [f57, bt_lead hj hr, Classical.not_not] at q
    obtain ⟨k1, k2, k3⟩ := hok q.2 q.1
    rw [k2] at q2
  · rw [w32_id (z := iOr u (iShl 1 j) * 12) (by omega) (by omega), w32_id (by omega) (by omega)]; omega
  · obtain ⟨r1, r2⟩ := k3 _ h0 q2
    have hbj := hBj q.2 q.1
    rw [if_pos q2] at h
    rw [w32_id (z := iOr u (iShl 1 j) * 12) (by omega) (by omega), w32_id (z := iOr u (iShl 1 j) * 12 + _) (by omega) (by omega), e1, f56, w64_id (by omega) (by omega), r2]
    exact h
  · rw [if_neg q2] at h
    exact h
/-- the first of the least sums -/
theorem s_firstJudge {d : Nat} {m : jM} {Q : Int → jM → Prop}
    (h1 : (∀ j : Int, 0 ≤ j → j < 8 → m 87 j = -4611686018427387904) → Q (-1) m)
    (h2 : ∀ j0 : Int, 0 ≤ j0 → j0 < 8 → m 87 j0 ≠ -4611686018427387904 → (∀ j : Int, 0 ≤ j → j < 8 → m 87 j ≠ -4611686018427387904 → m 87 j0 < m 87 j ∨ (m 87 j0 = m 87 j ∧ j0 ≤ j)) → Q j0 m) : jK (d + 1) zX3_firstJudge [jO 3 81] m Q := by
  have loop : ∀ (r : Nat) (f j : Int), 0 ≤ j → j + r = 8 → ((f = -1 ∧ ∀ x : Int, 0 ≤ x → x < j → m 87 x = -4611686018427387904) ∨ ((0 ≤ f ∧ f < j) ∧ m 87 f ≠ -4611686018427387904 ∧ ∀ x : Int, 0 ≤ x → x < j → m 87 x ≠ -4611686018427387904 → m 87 f < m 87 x ∨ (m 87 f = m 87 x ∧ f ≤ x))) → aX3_firstJudge_4 d f j m Q := by
    intro r
    induction r with
    | zero =>
      intro f j hj hr hI
      refine gX3_firstJudge_4 d f j m Q ⟨fun q => by omega, fun _ => ?_⟩
      rcases hI with ⟨rfl, g⟩ | ⟨g1, g2, g3⟩
      · exact h1 (fun x k1 k2 => g x k1 (by omega))
      · exact h2 f g1.1 (by omega) g2 (fun x k1 k2 => g3 x k1 (by omega))
    | succ r ih =>
      intro f j hj hr hI
      have ej : w32 (j + 1) = j + 1 := w32_id (by omega) (by omega)
      refine gX3_firstJudge_4 d f j m Q ⟨fun _ => ⟨by omega, fun q => ?_, fun q => ⟨fun q2 => ?_, fun q2 => ⟨by omega, by omega, fun q3 => ?_, fun q3 => ?_⟩⟩⟩, fun q => by omega⟩
      all_goals
        rw [ej]
        refine ih _ (j + 1) (by omega) (by omega) ?_
      · rcases hI with ⟨e, g⟩ | ⟨g1, g2, g3⟩
        · left
          refine ⟨e, fun x k1 k2 => ?_⟩
          by_cases hx : x = j
          · rw [hx]; exact q
          · exact g x k1 (by omega)
        · right
          refine ⟨by omega, g2, fun x k1 k2 k3 => ?_⟩
          by_cases hx : x = j
          · rw [hx] at k3; exact absurd q k3
          · exact g3 x k1 (by omega) k3
      · right
        rcases hI with ⟨e, g⟩ | ⟨g1, g2, g3⟩
        · refine ⟨by omega, q, fun x k1 k2 k3 => ?_⟩
          by_cases hx : x = j
          · rw [hx]; right; exact ⟨rfl, Int.le_refl _⟩
          · exact absurd (g x k1 (by omega)) k3
        · omega
      · right
        rcases hI with ⟨e, g⟩ | ⟨g1, g2, g3⟩
        · exact absurd e q2
        · refine ⟨by omega, q, fun x k1 k2 k3 => ?_⟩
          by_cases hx : x = j
          · rw [hx]; right; exact ⟨rfl, Int.le_refl _⟩
          · have := g3 x k1 (by omega) k3; omega
      · right
        rcases hI with ⟨e, g⟩ | ⟨g1, g2, g3⟩
        · exact absurd e q2
        · refine ⟨by omega, g2, fun x k1 k2 k3 => ?_⟩
          by_cases hx : x = j
          · rw [hx]; omega
          · exact g3 x k1 (by omega) k3
  refine gX3_firstJudge d m Q (loop 8 (-1) 0 (by omega) (by omega) (Or.inl ⟨rfl, fun x k1 k2 => by omega⟩))
theorem tot_r {o : Int → Int → Bool} {b : Int → Int → Int} {C : Int → Bool} (hB : dpB o b) (k : Nat) (hk : k ≤ 8) : ∀ s l, l ∈ mts o C k s → 0 ≤ tot b k l ∧ tot b k l ≤ 1000000000 * k := by
  induction k with
  | zero => intro s l _; exact ⟨Int.le_refl _, Int.le_refl _⟩
  | succ k ih =>
    intro s l hl
    rw [mts_s] at hl
    split at hl
    · obtain ⟨j, hj, hj2⟩ := fm_mem.mp hl
      split at hj2
      · rename_i hg
        obtain ⟨l', h1, rfl⟩ := List.mem_map.mp hj2
        have := ih (by omega) _ _ h1
        have hb := hB j (7 - k) (by omega) (by omega) (by omega) (by omega) hg.2
        show 0 ≤ (if (j : Int) = -1 then 0 else b j (7 - k)) + tot b k l' ∧ (if (j : Int) = -1 then 0 else b j (7 - k)) + tot b k l' ≤ _
        rw [if_neg (by omega)]
        omega
      · cases hj2
    · obtain ⟨l', h1, rfl⟩ := List.mem_map.mp hl
      have := ih (by omega) _ _ h1
      show 0 ≤ (if (-1 : Int) = -1 then 0 else b (-1) (7 - k)) + tot b k l' ∧ (if (-1 : Int) = -1 then 0 else b (-1) (7 - k)) + tot b k l' ≤ _
      rw [if_pos rfl]
      omega
theorem s_merge {d : Nat} {u c : Int} {m m1 : jM} {Q : Int → jM → Prop} (hP : plL 54 m 8) (hr : ∀ c : Int, 0 ≤ c → c < 8 → mk8 (m 57 c)) (hB : dpB (pO (m 57)) (rB (m 56))) (hu : mk8 u) (ht : pc8 u < m 54 1) (hc : m 55 (pc8 u) = c)
    (hf : ∀ q, q < 82 → m1 q = m q) (hst : ∀ j : Int, 0 ≤ j → j < 8 → bt u j = false → bt (m 57 c) j = true → nOk m m1 (iOr u (iShl 1 j)))
    (h : ∀ (m2 : jM) (T : List (List Int)), (∀ q, q < 83 → m2 q = m1 q) → (∀ q, 87 < q → m2 q = m1 q) → (∀ y : Int, (y < u * 12 ∨ u * 12 + 12 ≤ y) → m2 83 y = m1 83 y ∧ m2 84 y = m1 84 y ∧ m2 85 y = m1 85 y) → Top (tot (rB (m 56)) (nLv m u)) (mts (pO (m 57)) (bt (m 54 0)) (nLv m u) u) T →
      (∀ i : Int, 0 ≤ i → i < T.length → m2 83 (u * 12 + i) = tot (rB (m 56)) (nLv m u) (gtD T i) ∧ nSt m m2 u c i (gtD T i)) → Q T.length m2) : jK (d + 2) zX3_merge [jO 3 81, jO 4 54, jI u, jI c] m1 Q := by
  have hpr := pc8_r u
  have hu2 : 0 ≤ u ∧ u < 256 := hu
  obtain ⟨b1, b2, b3, b4⟩ := hP.2.2.1 (pc8 u) hpr.1 ht
  rw [show m (54 + 1) (pc8 u) = c from hc] at b1 b2 b3 b4
  have e7 : 7 - (((7 - c).toNat : Nat) : Int) = c := by omega
  have eLv : nLv m u = (7 - c).toNat + 1 := by unfold nLv pLv; rw [if_pos ht, show m (54 + 1) (pc8 u) = c from hc]; omega
  rw [eLv] at h
  obtain ⟨e, ee1, ee2⟩ := pLv_sk hP hpr.1 ht
  rw [show m (54 + 1) (pc8 u) = c from hc] at ee1
  have eRep : (7 - c).toNat - pLv 54 m (pc8 u + 1) = e := by omega
  -- the lists by judges
  generalize hLf : (fun j : Int => if bt u j = false ∧ bt (m 57 c) j = true then (nLV m (iOr u (iShl 1 j))).map (fun l => j :: (List.replicate e (-1) ++ l)) else []) = Lf
  have hLfd : ∀ j, Lf j = if bt u j = false ∧ bt (m 57 c) j = true then (nLV m (iOr u (iShl 1 j))).map (fun l => j :: (List.replicate e (-1) ++ l)) else [] := fun j => by rw [← hLf]
  have hlvT : ∀ j : Int, 0 ≤ j → j < 8 → bt u j = false → nLv m (iOr u (iShl 1 j)) = pLv 54 m (pc8 u + 1) := by
    intro j h1 h2 h3; unfold nLv; rw [pc8_1 ⟨h1, h2⟩ h3]
  have hmts : ∀ s, mts (pO (m 57)) (bt (m 54 0)) (7 - c).toNat s = (mts (pO (m 57)) (bt (m 54 0)) (pLv 54 m (pc8 u + 1)) s).map (fun l => List.replicate e (-1) ++ l) := by
    intro s; rw [ee1]; exact mts_rep _ _ ee2
  have htotk : ∀ l, tot (rB (m 56)) (7 - c).toNat (List.replicate e (-1) ++ l) = tot (rB (m 56)) (pLv 54 m (pc8 u + 1)) l := by
    intro l; rw [ee1]; exact tot_rep _ _ _ _
  have htotj : ∀ (j : Int) l, 0 ≤ j → tot (rB (m 56)) ((7 - c).toNat + 1) (j :: (List.replicate e (-1) ++ l)) = m 56 (8 * j + c) + tot (rB (m 56)) (pLv 54 m (pc8 u + 1)) l := by
    intro j l h1
    show (if j = -1 then 0 else rB (m 56) j (7 - (((7 - c).toNat : Nat) : Int))) + tot (rB (m 56)) (7 - c).toNat (List.replicate e (-1) ++ l) = _
    rw [if_neg (by omega), htotk, e7]; rfl
  generalize hXX : (fun j : Int => if bt u j = false ∧ pO (m 57) j (7 - (((7 - c).toNat : Nat) : Int)) = true then (mts (pO (m 57)) (bt (m 54 0)) (7 - c).toNat (iOr u (iShl 1 j))).map (fun l => j :: l) else []) = X
  have hXd : ∀ j, X j = if bt u j = false ∧ bt (m 57 c) j = true then (mts (pO (m 57)) (bt (m 54 0)) (7 - c).toNat (iOr u (iShl 1 j))).map (fun l => j :: l) else [] := fun j => by rw [← hXX, e7]; rfl
  have hfm : mts (pO (m 57)) (bt (m 54 0)) ((7 - c).toNat + 1) u = fm X 8 := by
    rw [mts_s, if_pos (by rw [e7]; exact b3), ← hXX]
  have hT : ∀ j : Int, 0 ≤ j → j < 8 → Top (tot (rB (m 56)) ((7 - c).toNat + 1)) (X j) (Lf j) := by
    intro j h1 h2
    rw [hXd, hLfd]
    by_cases hg : bt u j = false ∧ bt (m 57 c) j = true
    · rw [if_pos hg, if_pos hg, hmts, List.map_map]
      have hk := (hst j h1 h2 hg.1 hg.2).1
      rw [hlvT j h1 h2 hg.1] at hk
      exact top_map (v := m 56 (8 * j + c)) hk (fun l _ => htotj j l h1) (fun x y hxy => Or.inr ⟨rfl, lxl_rep hxy⟩)
    · rw [if_neg hg, if_neg hg]; exact top_nil _
  have hXh : ∀ j : Int, ∀ l ∈ X j, ∃ l', l = j :: l' := by
    intro j l hl
    rw [hXd] at hl
    split at hl
    · obtain ⟨l', _, rfl⟩ := List.mem_map.mp hl
      exact ⟨l', rfl⟩
    · cases hl
  have hgt : ∀ (j i : Int), bt u j = false → bt (m 57 c) j = true → 0 ≤ i → i < (Lf j).length → gtD (Lf j) i = j :: (List.replicate e (-1) ++ gtD (nLV m (iOr u (iShl 1 j))) i) ∧ i < (nLV m (iOr u (iShl 1 j))).length := by
    intro j i h1 h2 h3 h4
    rw [hLfd, if_pos ⟨h1, h2⟩] at h4 ⊢
    rw [List.length_map] at h4
    refine ⟨?_, h4⟩
    unfold gtD
    rw [List.getD_eq_getElem?_getD, List.getElem?_map, List.getD_eq_getElem?_getD, List.getElem?_eq_getElem (show i.toNat < _ by omega)]
    rfl
  -- one head
  have head : ∀ (j : Int) (m2 : jM) (K : Int → jM → Prop), 0 ≤ j → j < 8 → (∀ q, q < 83 → m2 q = m1 q) → (∀ y : Int, (y < u * 12 ∨ u * 12 + 12 ≤ y) → m2 83 y = m1 83 y) → 0 ≤ m2 86 j → K (if m2 86 j < (Lf j).length then tot (rB (m 56)) ((7 - c).toNat + 1) (gtD (Lf j) (m2 86 j)) else -4611686018427387904) m2 → jK (d + 1) zX3_headTotal [jO 3 81, jO 4 54, jI u, jI c, jI j] m2 K := by
    intro j m2 K h1 h2 f0 f1 f2 hK
    have hor := mk_or1 hu (k := j) ⟨h1, h2⟩
    have hor2 : 0 ≤ iOr u (iShl 1 j) ∧ iOr u (iShl 1 j) < 256 := hor
    refine s_headTotal (m := m) (Lf := Lf) (k := (7 - c).toNat) (hr c (by omega) (by omega)) hu ⟨b1, b2⟩ ⟨h1, h2⟩ (by rw [f0 56 (by omega), hf 56 (by omega)]) (by rw [f0 57 (by omega), hf 57 (by omega)]) f2 (fun _ g => hB j c h1 h2 b1 b2 g) (fun g => by rw [hLfd, if_neg g]) (fun g1 g2 => ?_) hK
    have hk := hst j h1 h2 g1 g2
    have hlen : (Lf j).length = (nLV m (iOr u (iShl 1 j))).length := by rw [hLfd, if_pos ⟨g1, g2⟩, List.length_map]
    have hlt := mk_lt hu ⟨h1, h2⟩ g1
    refine ⟨by rw [hlen]; exact hk.1.2.2.1, by rw [f0 82 (by omega), hlen]; exact hk.2.1, fun i k1 k2 => ?_⟩
    have h12 := hk.1.2.2.1
    have hent := (hk.2.2 i k1 (by omega)).1
    rw [hlvT j h1 h2 g1] at hent
    rw [f1 _ (by omega), hent, (hgt j i g1 g2 k1 k2).1, htotj j _ h1]
    refine ⟨?_, rfl⟩
    have hlv8 : pLv 54 m (pc8 u + 1) ≤ 8 := by omega
    have hkt := hk.1
    rw [hlvT j h1 h2 g1] at hkt
    have := tot_r hB _ hlv8 _ _ (hkt.2.1 _ (gtD_mem k1 (by omega)))
    omega
  refine gX3_merge (d + 1) u c m1 Q (s_fillI (by omega) ?_)
  have L43 : ∀ (r : Nat) (n : Int) (m2 : jM) (M : List (List Int)), n + r = 12 → 0 ≤ n → n = M.length → (∀ q, q < 83 → m2 q = m1 q) → (∀ q, 87 < q → m2 q = m1 q) → (∀ y : Int, (y < u * 12 ∨ u * 12 + 12 ≤ y) → m2 83 y = m1 83 y ∧ m2 84 y = m1 84 y ∧ m2 85 y = m1 85 y) → mIn (tot (rB (m 56)) ((7 - c).toNat + 1)) Lf (m2 86) M →
      (∀ i : Int, 0 ≤ i → i < n → m2 83 (u * 12 + i) = tot (rB (m 56)) ((7 - c).toNat + 1) (gtD M i) ∧ nSt m m2 u c i (gtD M i)) → (∀ j : Int, 0 ≤ j → j < 8 → m2 87 j = if m2 86 j < (Lf j).length then tot (rB (m 56)) ((7 - c).toNat + 1) (gtD (Lf j) (m2 86 j)) else -4611686018427387904) → aX3_merge_43 (d + 1) u c n m2 Q := by
    intro r
    induction r with
    | zero =>
      intro n m2 M hr hn0 hn f0 f0' f1 hM f2 f3
      refine gX3_merge_43 (d + 1) u c n m2 Q ⟨fun q => by omega, fun _ => ?_⟩
      have hQ := h m2 M f0 f0' f1 (by rw [hfm]; exact mIn_top hT hM (Or.inl (by omega))) (fun i g1 g2 => f2 i g1 (by omega))
      rw [show ((M.length : Nat) : Int) = 12 by omega] at hQ
      exact hQ
    | succ r ih =>
      intro n m2 M hrn hn0 hn f0 f0' f1 hM f2 f3
      have en : w32 (n + 1) = n + 1 := w32_id (by omega) (by omega)
      have ei : w32 (w32 (u * 12) + n) = u * 12 + n := by simp (disch := omega) only [w32_id]
      -- sums are told from none
      have hsum : ∀ j : Int, 0 ≤ j → j < 8 → m2 86 j < (Lf j).length → 0 ≤ tot (rB (m 56)) ((7 - c).toNat + 1) (gtD (Lf j) (m2 86 j)) := by
        intro j h1 h2 h3
        have hr := hM.2.2.2.1 j h1 h2
        have hmem := (hT j h1 h2).2.1 _ (gtD_mem hr.1 h3)
        have : gtD (Lf j) (m2 86 j) ∈ mts (pO (m 57)) (bt (m 54 0)) ((7 - c).toNat + 1) u := by
          rw [hfm, fm_mem]
          exact ⟨j.toNat, by omega, by rw [Int.toNat_of_nonneg h1]; exact hmem⟩
        exact (tot_r hB _ (by omega) _ _ this).1
      refine gX3_merge_43 (d + 1) u c n m2 Q ⟨fun _ => s_firstJudge (fun g => ⟨fun _ => ?_, fun q => absurd rfl q⟩) (fun j0 g1 g2 g3 g4 => ⟨fun q => by omega, fun _ => ⟨⟨g1, g2⟩, by omega, by omega, ⟨g1, g2⟩, by omega, ⟨g1, g2⟩, ⟨g1, g2⟩, ?_⟩⟩), fun q => by omega⟩
      · rw [hn] at f2 ⊢
        have hall : ∀ j : Int, 0 ≤ j → j < 8 → m2 86 j = (Lf j).length := by
          intro j h1 h2
          have hr := hM.2.2.2.1 j h1 h2
          have hgj := g j h1 h2
          rw [f3 j h1 h2] at hgj
          apply Decidable.byContradiction
          intro hne
          rw [if_pos (by omega)] at hgj
          have := hsum j h1 h2 (by omega)
          omega
        exact h m2 M f0 f0' f1 (by rw [hfm]; exact mIn_top hT hM (Or.inr hall)) f2
      · rw [ei, en]
        have hr0 := hM.2.2.2.1 j0 g1 g2
        have hlt0 : m2 86 j0 < (Lf j0).length := by
          apply Decidable.byContradiction
          intro hne
          apply g3
          rw [f3 j0 g1 g2, if_neg hne]
        have hv0 := f3 j0 g1 g2
        rw [if_pos hlt0] at hv0
        have hop : bt u j0 = false ∧ bt (m 57 c) j0 = true := by
          apply Classical.byContradiction
          intro hne
          rw [hLfd, if_neg hne] at hlt0
          simp at hlt0
          omega
        obtain ⟨hgd, hgl⟩ := hgt j0 (m2 86 j0) hop.1 hop.2 hr0.1 hlt0
        have h12 : (Lf j0).length ≤ 12 := (hT j0 g1 g2).2.2.1
        have e86 : w32 (m2 86 j0 + 1) = m2 86 j0 + 1 := w32_id (by omega) (by omega)
        simp only [up_ne (show ¬ (86 : Int) = 85 by omega), up_ne (show ¬ (86 : Int) = 84 by omega), up_ne (show ¬ (86 : Int) = 83 by omega)]
        rw [e86]
        have w83 : ∀ z w x y, jUp (jUp (jUp (jUp m2 83 (u * 12 + n) z) 84 (u * 12 + n) w) 85 (u * 12 + n) x) 86 j0 y 83 = fun j => if j = u * 12 + n then z else m2 83 j := by
          intro z w x y; rw [up_ne (by omega), up_ne (by omega), up_ne (by omega), jUp_row, if_pos rfl]
        have w84 : ∀ z w x y, jUp (jUp (jUp (jUp m2 83 (u * 12 + n) z) 84 (u * 12 + n) w) 85 (u * 12 + n) x) 86 j0 y 84 = fun j => if j = u * 12 + n then w else m2 84 j := by
          intro z w x y; rw [up_ne (by omega), up_ne (by omega), jUp_row, if_pos rfl, up_ne (by omega)]
        have w85 : ∀ z w x y, jUp (jUp (jUp (jUp m2 83 (u * 12 + n) z) 84 (u * 12 + n) w) 85 (u * 12 + n) x) 86 j0 y 85 = fun j => if j = u * 12 + n then x else m2 85 j := by
          intro z w x y; rw [up_ne (by omega), jUp_row, if_pos rfl, up_ne (by omega), up_ne (by omega)]
        have w86 : ∀ z w x y, jUp (jUp (jUp (jUp m2 83 (u * 12 + n) z) 84 (u * 12 + n) w) 85 (u * 12 + n) x) 86 j0 y 86 = fun j => if j = j0 then y else m2 86 j := by
          intro z w x y; rw [jUp_row, if_pos rfl, up_ne (by omega), up_ne (by omega), up_ne (by omega)]
        have wO : ∀ z w x y q, q ≠ 83 → q ≠ 84 → q ≠ 85 → q ≠ 86 → jUp (jUp (jUp (jUp m2 83 (u * 12 + n) z) 84 (u * 12 + n) w) 85 (u * 12 + n) x) 86 j0 y q = m2 q := by
          intro z w x y q k1 k2 k3 k4; rw [up_ne k4, up_ne k3, up_ne k2, up_ne k1]
        have w83 := w83 (m2 87 j0) j0 (m2 86 j0) (m2 86 j0 + 1)
        have w84 := w84 (m2 87 j0) j0 (m2 86 j0) (m2 86 j0 + 1)
        have w85 := w85 (m2 87 j0) j0 (m2 86 j0) (m2 86 j0 + 1)
        have w86 := w86 (m2 87 j0) j0 (m2 86 j0) (m2 86 j0 + 1)
        have wO := wO (m2 87 j0) j0 (m2 86 j0) (m2 86 j0 + 1)
        generalize jUp (jUp (jUp (jUp m2 83 (u * 12 + n) (m2 87 j0)) 84 (u * 12 + n) j0) 85 (u * 12 + n) (m2 86 j0)) 86 j0 (m2 86 j0 + 1) = m3 at *
        have hM' : mIn (tot (rB (m 56)) ((7 - c).toNat + 1)) Lf (m3 86) (M ++ [gtD (Lf j0) (m2 86 j0)]) := by
          refine mIn_s hT hXh hM (by omega) ⟨g1, g2⟩ hlt0 (fun j h1 h2 h3 => ?_) (fun j hj => by rw [w86]; simp [hj]) (by rw [w86]; simp)
          have := f3 j h1 h2
          rw [if_pos h3] at this
          rw [← hv0, ← this]
          refine g4 j h1 h2 ?_
          rw [this]
          have := hsum j h1 h2 h3
          omega
        refine head j0 m3 _ g1 g2 (fun q k1 => by rw [wO q (by omega) (by omega) (by omega) (by omega)]; exact f0 q k1) (fun y hy => by rw [w83]; dsimp only; rw [if_neg (by omega)]; exact (f1 y hy).1) (by rw [w86]; dsimp only; rw [if_pos rfl]; omega) ⟨⟨g1, g2⟩, ?_⟩
        have lenM : ((M ++ [gtD (Lf j0) (m2 86 j0)]).length : Int) = n + 1 := by rw [List.length_append]; simp; omega
        have gM : ∀ i : Int, 0 ≤ i → gtD (M ++ [gtD (Lf j0) (m2 86 j0)]) i = if i < n then gtD M i else if i = n then gtD (Lf j0) (m2 86 j0) else [] := by
          intro i hi
          unfold gtD
          rw [List.getD_eq_getElem?_getD, List.getElem?_append]
          split
          · rw [if_pos (by omega), List.getD_eq_getElem?_getD]
          · rw [if_neg (by omega)]
            split
            · rw [show i.toNat - M.length = 0 by omega]; rfl
            · rw [List.getElem?_eq_none (by simp; omega)]; rfl
        refine ih (n + 1) _ (M ++ [gtD (Lf j0) (m2 86 j0)]) (by omega) (by omega) (by omega) (fun q k1 => ?_) (fun q k1 => ?_) (fun y hy => ?_) (by rw [up_ne (by omega)]; exact hM') (fun i k1 k2 => ?_) (fun j k1 k2 => ?_)
        · rw [up_ne (by omega), wO q (by omega) (by omega) (by omega) (by omega)]; exact f0 q k1
        · rw [up_ne (by omega), wO q (by omega) (by omega) (by omega) (by omega)]; exact f0' q k1
        · rw [up_ne (by omega), up_ne (by omega), up_ne (by omega), w83, w84, w85]
          dsimp only
          rw [if_neg (by omega), if_neg (by omega), if_neg (by omega)]
          exact f1 y hy
        · unfold nSt
          rw [up_ne (show ¬ (83 : Int) = 87 by omega), up_ne (show ¬ (84 : Int) = 87 by omega), up_ne (show ¬ (85 : Int) = 87 by omega), w83, w84, w85, gM i k1]
          dsimp only
          by_cases hin : i = n
          · subst hin
            rw [if_pos rfl, if_pos rfl, if_pos rfl, if_neg (by omega), if_pos rfl]
            refine ⟨hv0, ⟨g1, g2⟩, hop.1, hop.2, ⟨hr0.1, hgl⟩, ?_⟩
            rw [eRep]; exact hgd
          · simp only [if_neg (show ¬ u * 12 + i = u * 12 + n by omega), if_pos (show i < n by omega)]
            exact f2 i k1 (by omega)
        · rw [up_eq, up_ne (show ¬ (86 : Int) = 87 by omega)]
          by_cases hj : j = j0
          · rw [if_pos hj, hj]
          · rw [if_neg hj, wO 87 (by omega) (by omega) (by omega) (by omega), show m3 86 j = m2 86 j from by rw [w86]; exact if_neg hj]
            exact f3 j k1 k2
  have L11 : ∀ (r : Nat) (j : Int) (m2 : jM), 0 ≤ j → j + r = 8 → (∀ q, q ≠ 86 → q ≠ 87 → m2 q = m1 q) → (∀ x : Int, 0 ≤ x → x < 8 → m2 86 x = 0) → (∀ x : Int, 0 ≤ x → x < j → m2 87 x = if m2 86 x < (Lf x).length then tot (rB (m 56)) ((7 - c).toNat + 1) (gtD (Lf x) (m2 86 x)) else -4611686018427387904) → aX3_merge_11 (d + 1) u c j m2 Q := by
    intro r
    induction r with
    | zero =>
      intro j m2 hj hr f0 f1 f2
      refine gX3_merge_11 (d + 1) u c j m2 Q ⟨fun q => by omega, fun _ => ?_⟩
      refine L43 12 0 m2 [] (by omega) (by omega) rfl (fun q k => f0 q (by omega) (by omega)) (fun q k => f0 q (by omega) (by omega)) (fun y _ => by rw [f0 83 (by omega) (by omega), f0 84 (by omega) (by omega), f0 85 (by omega) (by omega)]; exact ⟨rfl, rfl, rfl⟩) (mIn_0 _ _ f1) (fun i k1 k2 => by omega) (fun x k1 k2 => f2 x k1 (by omega))
    | succ r ih =>
      intro j m2 hj hr f0 f1 f2
      have ej : w32 (j + 1) = j + 1 := w32_id (by omega) (by omega)
      refine gX3_merge_11 (d + 1) u c j m2 Q ⟨fun _ => head j m2 _ hj (by omega) (fun q k => f0 q (by omega) (by omega)) (fun y _ => by rw [f0 83 (by omega) (by omega)]) (by rw [f1 j hj (by omega)]; omega) ⟨by omega, ?_⟩, fun q => by omega⟩
      rw [ej]
      refine ih (j + 1) _ (by omega) (by omega) (fun q k1 k2 => by rw [up_ne k2]; exact f0 q k1 k2) (fun x k1 k2 => by rw [up_ne (by omega)]; exact f1 x k1 k2) (fun x k1 k2 => ?_)
      rw [up_ne (show ¬ (86 : Int) = 87 by omega), up_eq]
      by_cases hx : x = j
      · rw [if_pos hx, hx]
      · rw [if_neg hx]; exact f2 x k1 (by omega)
  refine L11 8 0 _ (by omega) (by omega) (fun q k1 k2 => ?_) (fun x k1 k2 => ?_) (fun x k1 k2 => by omega)
  · funext y; unfold jFil; rw [if_neg (by rintro ⟨g, _⟩; exact k1 g)]
  · unfold jFil; rw [if_pos ⟨rfl, k1, k2⟩]

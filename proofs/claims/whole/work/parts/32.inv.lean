/-! the relation of the two states between two calls of the law -/
def rcl (p : Int) : Prop := p = 7 ∨ p = 11 ∨ p = 15 ∨ p = 19 ∨ p = 47
def iCt (a w : Int → Int) : Prop := mk8 (a 0) ∧ mk8 (a 1) ∧ ∀ j : Int, 0 ≤ j → j < 8 → w j = (if bt (a 0) j = true then 1 else 0) ∧ w (8 + j) = (if bt (a 1) j = true then 1 else 0)
def iTr (a w : Int → Int) : Prop := ∀ x : Int, 0 ≤ x → x < 48 → w x = a x ∧ -999 ≤ a x ∧ a x ≤ 999
def iOw (a w : Int → Int) : Prop := ∀ x : Int, 0 ≤ x → x < 64 → w x = a x ∧ -1 ≤ a x ∧ a x ≤ 1000000000
def iMk (a w : Int → Int) : Prop := ∀ x : Int, 0 ≤ x → x < 64 → w x = a x ∧ 0 ≤ a x ∧ a x ≤ 2
def iPr (m : jM) : Prop := (∀ q : Int, 0 ≤ q → q < 4 → rcl (m 5 q)) ∧ rcl (m 45 2) ∧ (∀ q : Int, 0 ≤ q → q < 4 → m 5 q ≠ m 45 2) ∧ ∀ q q' : Int, 0 ≤ q → q < 4 → 0 ≤ q' → q' < 4 → q ≠ q' → m 5 q ≠ m 5 q'
def iRu (m : jM) : Prop := ∃ rk, rul (m 5) (rG m) (m 110) rk m
def kG (m : jM) (r f k : Int) : Int := if f = 0 then m 153 r else if f = 1 then m 154 r else m 156 (96 * (f - 2) + 24 * r + k)
def iTa (m : jM) : Prop := m 103 16 = m 45 1 ∧ (0 ≤ m 45 1 ∧ m 45 1 ≤ 60) ∧ ∀ i : Int, i < m 45 1 → m 118 i = m 46 i ∧ (0 ≤ i → 0 ≤ m 46 i ∧ m 46 i ≤ 255)
def iRo (m : jM) : Prop := m 103 50 = m 75 0 ∧ (0 ≤ m 75 0 ∧ m 75 0 ≤ 64) ∧ ∀ i : Int, 0 ≤ i → i < m 75 0 → m 76 (6 * i) = m 138 i ∧ m 76 (6 * i + 1) = m 139 i ∧ m 76 (6 * i + 2) = m 140 i ∧ m 76 (6 * i + 3) = iOr (m 140 i) (iShl (iAnd (m 146 i) (iXor (m 139 i) (-1))) 8) ∧ m 76 (6 * i + 4) = m 142 i ∧ m 76 (6 * i + 5) = m 141 i ∧ ∀ k : Int, 0 ≤ k → k < 16 → m 77 (16 * i + k) = m 143 (16 * i + k)
def iIm (m : jM) : Prop := (∀ q : Int, 0 ≤ q → q < 4 → m 27 q = 29 + 4 * q) ∧ m 103 68 = m 0 2 ∧ (m 0 2 = 0 ∨ (m 0 2 = 1 ∧ iCt (m 23) (m 149) ∧ iTr (m 24) (m 150) ∧ iOw (m 25) (m 151) ∧ iMk (m 26) (m 152) ∧ ∃ rk, rul (fun r => 29 + 4 * r) (kG m) (m 155) rk m))
def iSh (m : jM) : Prop := ∀ s : Int, 0 ≤ s → s < 4 → m 94 s = 95 + 2 * s ∧ m 157 s = m (95 + 2 * s) 0 ∧ (-1 ≤ m (95 + 2 * s) 0 ∧ m (95 + 2 * s) 0 ≤ 2) ∧ m 158 s = m (95 + 2 * s) 1 ∧ (0 ≤ m (95 + 2 * s) 1 ∧ m (95 + 2 * s) 1 ≤ 40) ∧ ∀ i : Int, 0 ≤ i → i < m (95 + 2 * s) 1 → m 159 (40 * s + i) = m (95 + 2 * s + 1) i
noncomputable def iO (m : jM) : Int → Int → Bool := gO (rJ (m 104)) (rC (m 104)) (rBu m) (m 107)
def iPl (m : jM) : Prop := m 54 0 = m 1 1 ∧ (∀ c : Int, 0 ≤ c → c < 8 → mk8 (m 57 c)) ∧ alk (pO (m 57)) (rB (m 56)) (bt (m 54 0)) (iO m) (rBu m) (rC (m 104)) ∧ (∀ x : Int, 0 ≤ x → x < 64 → m 56 x = if (rJ (m 104) (x / 8) = true ∧ rC (m 104) (x % 8) = true) ∧ rBu m (x / 8) (x % 8) ≠ -1 then rBu m (x / 8) (x % 8) else -4611686018427387904) ∧ pW 0 54 m
def iSs (m : jM) : Prop := ∀ j c : Int, 0 ≤ j → j < 8 → 0 ≤ c → c < 8 → m 61 (8 * j + c) = cw (iO m) (rBu m) (rC (m 104)) 8 0 j c
def iNx (m : jM) : Prop := ∃ T : List (List Int), Top (tot (rBu m) 8) (mts (iO m) (rC (m 104)) 8 0) T ∧ m 81 0 = T.length ∧ ∀ i : Int, 0 ≤ i → i < T.length → m 82 i = tot (rBu m) 8 (gtD T i) ∧ ∀ c : Int, 0 ≤ c → c < 8 → m 83 (8 * i + c) = (gtD T i).getD c.toNat (-1)
/-- days: the first best one by the marks then; the marks of the next day -/
noncomputable def dyF (J C : Int → Bool) (bu : Int → Int → Int) (mk : Int → Int) : List Int := ((bst (gO J C bu mk) bu C 8 0)[0]?).getD []
def dyN (mk : Int → Int) (T : List Int) : Int → Int := fun x => if T.getD (x % 8).toNat (-1) = x / 8 then 1 else mk x
noncomputable def dyM (J C : Int → Bool) (bu : Int → Int → Int) (mk : Int → Int) : Nat → Int → Int
  | 0 => mk
  | d + 1 => dyN (dyM J C bu mk d) (dyF J C bu (dyM J C bu mk d))
noncomputable def dyV (J C : Int → Bool) (bu : Int → Int → Int) (mk : Int → Int) (d : Nat) : Int := (dpt 0 (gO J C bu (dyM J C bu mk d)) bu C 8 0).1
def iDy (m : jM) : Prop := ∃ H : Nat, m 88 0 = H ∧ H ≤ 8 ∧ (∀ d : Nat, d < H → dyV (rJ (m 104)) (rC (m 104)) (rBu m) (m 107) d ≠ dpF) ∧ (H < 8 → dyV (rJ (m 104)) (rC (m 104)) (rBu m) (m 107) H = dpF) ∧
  ∀ d : Nat, d < H → m 89 d = dyV (rJ (m 104)) (rC (m 104)) (rBu m) (m 107) d ∧ ∀ c : Int, 0 ≤ c → c < 8 → m 90 (8 * (d : Int) + c) = (dyF (rJ (m 104)) (rC (m 104)) (rBu m) (dyM (rJ (m 104)) (rC (m 104)) (rBu m) (m 107) d)).getD c.toNat (-1)
def iCa (m : jM) : Prop := (m 0 12 = 0 ∨ (m 0 12 = 1 ∧ iPl m)) ∧ (m 0 13 = 0 ∨ (m 0 13 = 1 ∧ m 0 12 = 1 ∧ iSs m)) ∧ (m 0 14 = 0 ∨ (m 0 14 = 1 ∧ m 0 12 = 1 ∧ iNx m)) ∧ (m 0 15 = 0 ∨ (m 0 15 = 1 ∧ m 0 12 = 1 ∧ iDy m))
def Inv (m : jM) : Prop := iCt (m 1) (m 104) ∧ iTr (m 2) (m 105) ∧ iOw (m 3) (m 106) ∧ iMk (m 4) (m 107) ∧ iRu m ∧ iPr m ∧ iTa m ∧ iRo m ∧ iIm m ∧ iSh m ∧ iCa m
/-! rows that stay -/
theorem rG_q {m m' : jM} (h : ∀ q, 108 ≤ q → q ≤ 117 → m' q = m q) : rG m' = rG m := by
  funext r f k
  unfold rG
  rw [h 108 (by omega) (by omega), h 109 (by omega) (by omega), h 111 (by omega) (by omega), h 112 (by omega) (by omega), h 113 (by omega) (by omega), h 114 (by omega) (by omega), h 115 (by omega) (by omega), h 116 (by omega) (by omega), h 117 (by omega) (by omega)]
theorem rBu_q {m m' : jM} (h : ∀ q, 105 ≤ q → q ≤ 117 → m' q = m q) : rBu m' = rBu m := by
  unfold rBu rV0
  rw [rG_q (fun q a b => h q (by omega) b), h 105 (by omega) (by omega), h 106 (by omega) (by omega)]
theorem iO_q {m m' : jM} (h : ∀ q, 104 ≤ q → q ≤ 117 → m' q = m q) : iO m' = iO m := by
  unfold iO
  rw [rBu_q (fun q a b => h q (by omega) b), h 104 (by omega) (by omega), h 107 (by omega) (by omega)]
theorem ru1_fr {G : Int → Int → Int → Int} {nm : Int → Int} {m m' : jM} {p r : Int} (h0 : m' p = m p) (h1 : m' (p + 1) = m (p + 1)) (h2 : m' (p + 2) = m (p + 2)) (h3 : m' (p + 3) = m (p + 3)) (h : ru1 G nm m p r) : ru1 G nm m' p r := by
  unfold ru1 ruT ruN at h ⊢
  rw [h0, h1, h2, h3]
  exact h
theorem rul_fr {pr : Int → Int} {G : Int → Int → Int → Int} {nm rk : Int → Int} {m m' : jM} (f : ∀ r e : Int, 0 ≤ r → r < 4 → 0 ≤ e → e ≤ 3 → m' (pr r + e) = m (pr r + e)) (h : rul pr G nm rk m) : rul pr G nm rk m' := by
  refine ⟨h.1, fun r r1 r2 => ?_⟩
  have := h.2 r r1 r2
  have f0 := f r 0 r1 r2 (by omega) (by omega)
  rw [Int.add_zero] at f0
  exact ru1_fr f0 (f r 1 r1 r2 (by omega) (by omega)) (f r 2 r1 r2 (by omega) (by omega)) (f r 3 r1 r2 (by omega) (by omega)) this
theorem iRu_fr {m m' : jM} (h : iRu m) (hp : iPr m) (h5 : m' 5 = m 5) (hc : ∀ q, (7 ≤ q ∧ q ≤ 22) ∨ (47 ≤ q ∧ q ≤ 50) → m' q = m q) (hr : ∀ q, 108 ≤ q → q ≤ 117 → m' q = m q) : iRu m' := by
  obtain ⟨rk, h⟩ := h
  refine ⟨rk, ?_⟩
  rw [h5, rG_q hr, hr 110 (by omega) (by omega)]
  refine rul_fr (fun r e r1 r2 e1 e2 => hc _ ?_) h
  have := hp.1 r r1 r2
  unfold rcl at this
  omega
theorem iTa_fr {m m' : jM} (h : iTa m) (h1 : m' 45 1 = m 45 1) (h2 : m' 103 16 = m 103 16) (h3 : m' 46 = m 46) (h4 : m' 118 = m 118) : iTa m' := by
  unfold iTa at h ⊢
  rw [h1, h2, h3, h4]
  exact h
theorem iRo_fr {m m' : jM} (h : iRo m) (h0 : m' 103 50 = m 103 50) (h1 : ∀ q, (75 ≤ q ∧ q ≤ 77) ∨ (138 ≤ q ∧ q ≤ 143) ∨ q = 146 → m' q = m q) : iRo m' := by
  unfold iRo at h ⊢
  rw [h0, h1 75 (by omega), h1 76 (by omega), h1 77 (by omega), h1 138 (by omega), h1 139 (by omega), h1 140 (by omega), h1 141 (by omega), h1 142 (by omega), h1 143 (by omega), h1 146 (by omega)]
  exact h
theorem kG_q {m m' : jM} (h : ∀ q, 153 ≤ q → q ≤ 156 → m' q = m q) : kG m' = kG m := by
  funext r f k
  unfold kG
  rw [h 153 (by omega) (by omega), h 154 (by omega) (by omega), h 156 (by omega) (by omega)]
theorem iIm_fr {m m' : jM} (h : iIm m) (h0 : m' 0 2 = m 0 2) (h1 : m' 103 68 = m 103 68) (hr : ∀ q, (23 ≤ q ∧ q ≤ 27) ∨ (29 ≤ q ∧ q ≤ 44) ∨ (149 ≤ q ∧ q ≤ 156) → m' q = m q) : iIm m' := by
  obtain ⟨a, b, c⟩ := h
  refine ⟨by rw [hr 27 (by omega)]; exact a, by rw [h0, h1]; exact b, ?_⟩
  rw [h0]
  rcases c with c | ⟨c, c1, c2, c3, c4, rk, c5⟩
  · exact Or.inl c
  · refine Or.inr ⟨c, by rw [hr 23 (by omega), hr 149 (by omega)]; exact c1, by rw [hr 24 (by omega), hr 150 (by omega)]; exact c2, by rw [hr 25 (by omega), hr 151 (by omega)]; exact c3, by rw [hr 26 (by omega), hr 152 (by omega)]; exact c4, rk, ?_⟩
    rw [kG_q (fun q a b => hr q (by omega)), hr 155 (by omega)]
    exact rul_fr (fun r e r1 r2 e1 e2 => hr _ (by omega)) c5
theorem iSh_fr {m m' : jM} (h : iSh m) (hr : ∀ q, (94 ≤ q ∧ q ≤ 102) ∨ (157 ≤ q ∧ q ≤ 159) → m' q = m q) : iSh m' := by
  intro s s1 s2
  rw [hr 94 (by omega), hr 157 (by omega), hr 158 (by omega), hr 159 (by omega), hr (95 + 2 * s) (by omega), hr (95 + 2 * s + 1) (by omega)]
  exact h s s1 s2
theorem pW_fr {h : Int} {m m' : jM} (hr : ∀ q, 54 ≤ q → q ≤ 59 → m' q = m q) (w : pW h 54 m) : pW h 54 m' := by
  unfold pW pEn pLv plL at w ⊢
  simp only [hr 54 (by omega) (by omega), hr (54 + 1) (by omega) (by omega), hr (54 + 2) (by omega) (by omega), hr (54 + 3) (by omega) (by omega), hr (54 + 4) (by omega) (by omega), hr (54 + 5) (by omega) (by omega)]
  exact w
theorem iPl_fr {m m' : jM} (h : iPl m) (hr : ∀ q, q = 1 ∨ (54 ≤ q ∧ q ≤ 59) ∨ (104 ≤ q ∧ q ≤ 117) → m' q = m q) : iPl m' := by
  obtain ⟨a, b, c, e, g⟩ := h
  unfold iPl
  rw [hr 54 (by omega), hr 1 (by omega), hr 57 (by omega), hr 56 (by omega), iO_q (fun q a b => hr q (by omega)), rBu_q (fun q a b => hr q (by omega)), hr 104 (by omega)]
  exact ⟨a, b, c, e, pW_fr (fun q a b => hr q (by omega)) g⟩
theorem iSs_fr {m m' : jM} (h : iSs m) (hr : ∀ q, q = 61 ∨ (104 ≤ q ∧ q ≤ 117) → m' q = m q) : iSs m' := by
  unfold iSs
  rw [hr 61 (by omega), iO_q (fun q a b => hr q (by omega)), rBu_q (fun q a b => hr q (by omega)), hr 104 (by omega)]
  exact h
theorem iNx_fr {m m' : jM} (h : iNx m) (hr : ∀ q, q = 81 ∨ q = 82 ∨ q = 83 ∨ (104 ≤ q ∧ q ≤ 117) → m' q = m q) : iNx m' := by
  unfold iNx
  rw [hr 81 (by omega), hr 82 (by omega), hr 83 (by omega), iO_q (fun q a b => hr q (by omega)), rBu_q (fun q a b => hr q (by omega)), hr 104 (by omega)]
  exact h
theorem iDy_fr {m m' : jM} (h : iDy m) (hr : ∀ q, (88 ≤ q ∧ q ≤ 90) ∨ (104 ≤ q ∧ q ≤ 117) → m' q = m q) : iDy m' := by
  unfold iDy
  rw [hr 88 (by omega), hr 89 (by omega), hr 90 (by omega), rBu_q (fun q a b => hr q (by omega)), hr 104 (by omega), hr 107 (by omega)]
  exact h
theorem iCa_fr {m m' : jM} (h : iCa m) (h0 : ∀ j, 12 ≤ j → j ≤ 15 → m' 0 j = m 0 j) (hr : ∀ q, q = 1 ∨ (54 ≤ q ∧ q ≤ 59) ∨ q = 61 ∨ (81 ≤ q ∧ q ≤ 83) ∨ (88 ≤ q ∧ q ≤ 90) ∨ (104 ≤ q ∧ q ≤ 117) → m' q = m q) : iCa m' := by
  obtain ⟨a, b, c, e⟩ := h
  unfold iCa
  rw [h0 12 (by omega) (by omega), h0 13 (by omega) (by omega), h0 14 (by omega) (by omega), h0 15 (by omega) (by omega)]
  exact ⟨a.imp id (fun x => ⟨x.1, iPl_fr x.2 (fun q g => hr q (by omega))⟩), b.imp id (fun x => ⟨x.1, x.2.1, iSs_fr x.2.2 (fun q g => hr q (by omega))⟩), c.imp id (fun x => ⟨x.1, x.2.1, iNx_fr x.2.2 (fun q g => hr q (by omega))⟩), e.imp id (fun x => ⟨x.1, x.2.1, iDy_fr x.2.2 (fun q g => hr q (by omega))⟩)⟩
/-- nothing is kept of what was reckoned -/
theorem iCa_0 {m : jM} (h : ∀ j, 12 ≤ j → j ≤ 15 → m 0 j = 0) : iCa m := ⟨Or.inl (h 12 (by omega) (by omega)), Or.inl (h 13 (by omega) (by omega)), Or.inl (h 14 (by omega) (by omega)), Or.inl (h 15 (by omega) (by omega))⟩
def iRow (q : Int) : Prop := (1 ≤ q ∧ q ≤ 5) ∨ (7 ≤ q ∧ q ≤ 27) ∨ (29 ≤ q ∧ q ≤ 44) ∨ (46 ≤ q ∧ q ≤ 50) ∨ (54 ≤ q ∧ q ≤ 59) ∨ q = 61 ∨ (75 ≤ q ∧ q ≤ 77) ∨ (81 ≤ q ∧ q ≤ 83) ∨ (88 ≤ q ∧ q ≤ 90) ∨ (94 ≤ q ∧ q ≤ 102) ∨ (104 ≤ q ∧ q ≤ 118) ∨ (138 ≤ q ∧ q ≤ 143) ∨ q = 146 ∨ (149 ≤ q ∧ q ≤ 159)
theorem iPr_fr {m m' : jM} (h : iPr m) (h5 : m' 5 = m 5) (h45 : m' 45 2 = m 45 2) : iPr m' := by
  unfold iPr at h ⊢
  rw [h5, h45]
  exact h
theorem Inv_fr {m m' : jM} (h : Inv m) (f : ∀ q, iRow q → m' q = m q) (h0 : ∀ j, j = 2 ∨ (12 ≤ j ∧ j ≤ 15) → m' 0 j = m 0 j) (h45 : ∀ j, j = 1 ∨ j = 2 → m' 45 j = m 45 j) (h104 : ∀ j, j = 16 ∨ j = 50 ∨ j = 68 → m' 103 j = m 103 j) : Inv m' := by
  obtain ⟨a1, a2, a3, a4, a5, a6, a7, a8, a9, a10, a11⟩ := h
  have f' : ∀ q, (1 ≤ q ∧ q ≤ 5) ∨ (7 ≤ q ∧ q ≤ 27) ∨ (29 ≤ q ∧ q ≤ 44) ∨ (46 ≤ q ∧ q ≤ 50) ∨ (54 ≤ q ∧ q ≤ 59) ∨ q = 61 ∨ (75 ≤ q ∧ q ≤ 77) ∨ (81 ≤ q ∧ q ≤ 83) ∨ (88 ≤ q ∧ q ≤ 90) ∨ (94 ≤ q ∧ q ≤ 102) ∨ (104 ≤ q ∧ q ≤ 118) ∨ (138 ≤ q ∧ q ≤ 143) ∨ q = 146 ∨ (149 ≤ q ∧ q ≤ 159) → m' q = m q := f
  refine ⟨by rw [f' 1 (by omega), f' 104 (by omega)]; exact a1, by rw [f' 2 (by omega), f' 105 (by omega)]; exact a2, by rw [f' 3 (by omega), f' 106 (by omega)]; exact a3, by rw [f' 4 (by omega), f' 107 (by omega)]; exact a4,
    iRu_fr a5 a6 (f' 5 (by omega)) (fun q g => f' q (by omega)) (fun q a b => f' q (by omega)), iPr_fr a6 (f' 5 (by omega)) (h45 2 (by omega)), iTa_fr a7 (h45 1 (by omega)) (h104 16 (by omega)) (f' 46 (by omega)) (f' 118 (by omega)),
    iRo_fr a8 (h104 50 (by omega)) (fun q g => f' q (by omega)), iIm_fr a9 (h0 2 (by omega)) (h104 68 (by omega)) (fun q g => f' q (by omega)), iSh_fr a10 (fun q g => f' q (by omega)), iCa_fr a11 (fun j a b => h0 j (by omega)) (fun q g => f' q (by omega))⟩
/-- the court's own rows change; nothing is kept of what was reckoned -/
theorem Inv_mut {m m' : jM} (h : Inv m) (f : ∀ q, q ≠ 0 → q ≠ 1 → q ≠ 2 → q ≠ 3 → q ≠ 4 → q ≠ 104 → q ≠ 105 → q ≠ 106 → q ≠ 107 → m' q = m q) (h0 : m' 0 2 = m 0 2) (hz : ∀ j, 12 ≤ j → j ≤ 15 → m' 0 j = 0) (b1 : iCt (m' 1) (m' 104)) (b2 : iTr (m' 2) (m' 105)) (b3 : iOw (m' 3) (m' 106)) (b4 : iMk (m' 4) (m' 107)) : Inv m' := by
  obtain ⟨a1, a2, a3, a4, a5, a6, a7, a8, a9, a10, a11⟩ := h
  have g : ∀ q, (5 ≤ q ∧ q ≤ 103) ∨ 108 ≤ q → m' q = m q := fun q hq => f q (by omega) (by omega) (by omega) (by omega) (by omega) (by omega) (by omega) (by omega) (by omega)
  exact ⟨b1, b2, b3, b4, iRu_fr a5 a6 (g 5 (by omega)) (fun q h => g q (by omega)) (fun q a b => g q (by omega)), iPr_fr a6 (g 5 (by omega)) (by rw [g 45 (by omega)]), iTa_fr a7 (by rw [g 45 (by omega)]) (by rw [g 103 (by omega)]) (g 46 (by omega)) (g 118 (by omega)),
    iRo_fr a8 (by rw [g 103 (by omega)]) (fun q h => g q (by omega)), iIm_fr a9 h0 (by rw [g 103 (by omega)]) (fun q h => g q (by omega)), iSh_fr a10 (fun q h => g q (by omega)), iCa_0 hz⟩

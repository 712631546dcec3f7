/-! THE TIE: abstract values, locals, cells, worlds against the machine's -/
def jRf (ws : va_W) (k : Int) (a : Nat) : Prop := 0 ≤ k ∧ ∃ e, ws[k.toNat]? = some (a, e)
def jVr (ws : va_W) (sb : Option (Nat × Nat)) : jV → Value → Prop
  | .inl a, w => ∃ x : Int32, w = .int x ∧ a = x.toInt
  | .inr (.inl a), w => ∃ x : Int64, w = .long x ∧ a = x.toInt
  | .inr (.inr (.inl (c, k))), w => jKd k = c ∧ ∃ a, w = .ref a ∧ jRf ws k a
  | .inr (.inr (.inr (t, n, k))), w => (t < 4 ∧ jKd k = 20 + t ∧ jLn k = n ∧ ∃ a, w = .ref a ∧ jRf ws k a) ∨ (t = 4 ∧ ∃ b L : Nat, sb = some (b, L) ∧ n = L ∧ k = -2 ∧ w = .ref b)
theorem jVr_cat {ws : va_W} {sb : Option (Nat × Nat)} {v : jV} {w : Value} (h : jVr ws sb v w) : w.category = jCat v := by
  match v, h with
  | .inl a, ⟨x, h, _⟩ => subst h; rfl
  | .inr (.inl a), ⟨x, h, _⟩ => subst h; rfl
  | .inr (.inr (.inl (c, k))), ⟨_, a, h, _⟩ => subst h; rfl
  | .inr (.inr (.inr (t, n, k))), h =>
    rcases h with ⟨_, _, _, a, h, _⟩ | ⟨_, b, L, _, _, _, h⟩ <;> (subst h; rfl)
def jEx (ws ws' : va_W) : Prop := ∀ (k a : Nat) (e : va_E), ws[k]? = some (a, e) → ∃ e', ws'[k]? = some (a, e')
theorem jEx_rf (ws : va_W) : jEx ws ws := fun _ _ e h => ⟨e, h⟩
theorem jEx_tr {a b c : va_W} (h : jEx a b) (g : jEx b c) : jEx a c := fun k x e q => by
  obtain ⟨e', q'⟩ := h k x e q
  exact g k x e' q'
theorem jEx_set {ws : va_W} {k a : Nat} {e : va_E} (h : ws[k]? = some (a, e)) (e' : va_E) : jEx ws (ws.set k (a, e')) := by
  intro j b f hj
  have hlt : k < ws.length := (List.getElem?_eq_some_iff.mp h).1
  by_cases hjk : j = k
  · subst hjk
    rw [h] at hj
    cases hj
    exact ⟨e', by simp [hlt]⟩
  · exact ⟨f, by rw [List.getElem?_set_ne (fun q => hjk q.symm)]; exact hj⟩
theorem jEx_app (ws l : va_W) : jEx ws (ws ++ l) := by
  intro k a e h
  have hlt : k < ws.length := (List.getElem?_eq_some_iff.mp h).1
  exact ⟨e, by rw [List.getElem?_append_left hlt]; exact h⟩
theorem jRf_ex {ws ws' : va_W} (h : jEx ws ws') {k : Int} {a : Nat} (g : jRf ws k a) : jRf ws' k a := by
  obtain ⟨g1, e, g2⟩ := g
  exact ⟨g1, h _ _ _ g2⟩
theorem jVr_ex {ws ws' : va_W} {sb : Option (Nat × Nat)} (h : jEx ws ws') {v : jV} {w : Value} (g : jVr ws sb v w) : jVr ws' sb v w := by
  match v, g with
  | .inl a, g => exact g
  | .inr (.inl a), g => exact g
  | .inr (.inr (.inl (c, k))), ⟨g1, a, g2, g3⟩ => exact ⟨g1, a, g2, jRf_ex h g3⟩
  | .inr (.inr (.inr (t, n, k))), g =>
    rcases g with ⟨g1, g2, g3, a, g4, g5⟩ | g
    · exact Or.inl ⟨g1, g2, g3, a, g4, jRf_ex h g5⟩
    · exact Or.inr g
/-! locals -/
def jLr (ws : va_W) (sb : Option (Nat × Nat)) (nL : Nat) (ls : jS) (lsR : Array Slot) : Prop :=
  ls.length = nL ∧ ∃ l, lv_has lsR nL l ∧ ∀ (i : Nat) (v : jV), ls[i]? = some (some v) → ∃ w, (i, w) ∈ l ∧ jVr ws sb v w
theorem jLr_ex {ws ws' : va_W} {sb : Option (Nat × Nat)} {nL : Nat} {ls : jS} {lsR : Array Slot} (h : jEx ws ws') (g : jLr ws sb nL ls lsR) : jLr ws' sb nL ls lsR := by
  obtain ⟨g1, l, g2, g3⟩ := g
  refine ⟨g1, l, g2, fun i v q => ?_⟩
  obtain ⟨w, a, b⟩ := g3 i v q
  exact ⟨w, a, jVr_ex h b⟩
theorem jLr_le {ws : va_W} {sb : Option (Nat × Nat)} {nL : Nat} {l0 ls : jS} {lsR : Array Slot} (h : jLe l0 ls) (g : jLr ws sb nL ls lsR) : jLr ws sb nL l0 lsR := by
  obtain ⟨g1, l, g2, g3⟩ := g
  exact ⟨h.1.trans g1, l, g2, fun i v q => g3 i v (h.2 i v q)⟩
theorem jLr_at {ws : va_W} {sb : Option (Nat × Nat)} {nL : Nat} {ls : jS} {lsR : Array Slot} (g : jLr ws sb nL ls lsR) {i : Nat} {v : jV} (h : ls[i]? = some (some v)) : ∃ w, lsR[i]? = some (.val w) ∧ jVr ws sb v w := by
  obtain ⟨g1, l, g2, g3⟩ := g
  obtain ⟨w, a, b⟩ := g3 i v h
  exact ⟨w, g2.2.2 _ a, b⟩
theorem jKl_len (ls : jS) (i : Nat) : (jKl ls i).length = ls.length := by
  unfold jKl
  split
  · rfl
  · split
    · simp
    · rfl
theorem jKl_at {ls : jS} {i j : Nat} {u : jV} (h : (jKl ls i)[j]? = some (some u)) : ls[j]? = some (some u) ∧ ¬ (j + 1 = i ∧ jCat u = 2) := by
  unfold jKl at h
  split at h
  · exact ⟨h, by omega⟩
  · rename_i i'
    split at h
    · rename_i x hx
      by_cases hj : j = i'
      · subst hj
        rw [List.getElem?_set] at h
        split at h
        · split at h <;> cases h
        · exact absurd rfl ‹_›
      · rw [List.getElem?_set_ne (fun q => hj q.symm)] at h
        exact ⟨h, by omega⟩
    · rename_i hx
      refine ⟨h, ?_⟩
      rintro ⟨hj, hc⟩
      have hj : j = i' := by omega
      subst hj
      match u, hc with
      | .inr (.inl a), _ => exact hx _ h
theorem jSt1_ok {ws : va_W} {sb : Option (Nat × Nat)} {ls ls' : jS} {l : List (Nat × Value)} {i : Nat} {v : jV} {w : Value} (h : ∀ (i : Nat) (v : jV), ls[i]? = some (some v) → ∃ w, (i, w) ∈ l ∧ jVr ws sb v w) (hs : jSt1 ls i v = some ls') (hv : jVr ws sb v w) :
    ls'.length = ls.length ∧ i < ls.length ∧ ∀ (j : Nat) (u : jV), ls'[j]? = some (some u) → ∃ x, (j, x) ∈ ((i, w) :: l.filter (fun q => !(q.1 == i) && !(q.1 + 1 == i && q.2.category == 2))) ∧ jVr ws sb u x := by
  unfold jSt1 at hs
  split at hs
  · rename_i hi
    cases hs
    refine ⟨by simp [jKl_len], hi, fun j u hj => ?_⟩
    by_cases hji : j = i
    · subst hji
      rw [List.getElem?_set] at hj
      split at hj
      · split at hj
        · cases hj
          exact ⟨w, List.mem_cons_self, hv⟩
        · cases hj
      · exact absurd rfl ‹_›
    · rw [List.getElem?_set_ne (fun q => hji q.symm)] at hj
      obtain ⟨h1, h2⟩ := jKl_at hj
      obtain ⟨x, hx, hr⟩ := h j u h1
      refine ⟨x, List.mem_cons_of_mem _ (List.mem_filter.mpr ⟨hx, ?_⟩), hr⟩
      have hc := jVr_cat hr
      simp only [Bool.and_eq_true, Bool.not_eq_true', beq_eq_false_iff_ne, ne_eq, Bool.and_eq_false_iff]
      refine ⟨hji, ?_⟩
      by_cases hq : j + 1 = i
      · exact Or.inr (fun z => h2 ⟨hq, by rw [← hc]; exact z⟩)
      · exact Or.inl hq
  · cases hs
theorem jSt2_ok {ws : va_W} {sb : Option (Nat × Nat)} {ls ls' : jS} {l : List (Nat × Value)} {i : Nat} {v : jV} {w : Value} (h : ∀ (i : Nat) (v : jV), ls[i]? = some (some v) → ∃ w, (i, w) ∈ l ∧ jVr ws sb v w) (hs : jSt2 ls i v = some ls') (hv : jVr ws sb v w) :
    ls'.length = ls.length ∧ i + 1 < ls.length ∧ ∀ (j : Nat) (u : jV), ls'[j]? = some (some u) → ∃ x, (j, x) ∈ ((i, w) :: l.filter (fun q => !(q.1 == i) && (!(q.1 == i + 1) && !(q.1 + 1 == i && q.2.category == 2)))) ∧ jVr ws sb u x := by
  unfold jSt2 at hs
  split at hs
  · rename_i hi
    cases hs
    refine ⟨by simp [jKl_len], hi, fun j u hj => ?_⟩
    by_cases hj1 : j = i + 1
    · subst hj1
      rw [List.getElem?_set] at hj
      split at hj
      · split at hj <;> cases hj
      · exact absurd rfl ‹_›
    · rw [List.getElem?_set_ne (fun q => hj1 q.symm)] at hj
      by_cases hji : j = i
      · subst hji
        rw [List.getElem?_set] at hj
        split at hj
        · split at hj
          · cases hj
            exact ⟨w, List.mem_cons_self, hv⟩
          · cases hj
        · exact absurd rfl ‹_›
      · rw [List.getElem?_set_ne (fun q => hji q.symm)] at hj
        obtain ⟨h1, h2⟩ := jKl_at hj
        obtain ⟨x, hx, hr⟩ := h j u h1
        refine ⟨x, List.mem_cons_of_mem _ (List.mem_filter.mpr ⟨hx, ?_⟩), hr⟩
        have hc := jVr_cat hr
        simp only [Bool.and_eq_true, Bool.not_eq_true', beq_eq_false_iff_ne, ne_eq, Bool.and_eq_false_iff]
        refine ⟨hji, hj1, ?_⟩
        by_cases hq : j + 1 = i
        · exact Or.inr (fun z => h2 ⟨hq, by rw [← hc]; exact z⟩)
        · exact Or.inl hq
  · cases hs
/-! cells -/
def jFv (fu : Bool) (ws : va_W) (k : Int) (f : Nat) (a : Int) (v : Value) : Prop :=
  ((jFg f = 0 ∨ jFg f = 2) ∧ ∃ x : Int32, v = .int x ∧ a = x.toInt)
  ∨ (jFg f = 1 ∧ ∃ x : Int64, v = .long x ∧ a = x.toInt)
  ∨ ((jFg f = 3 ∨ jFg f = 4) ∧ ((fu = false ∧ a = -1 ∧ v = .null) ∨ (a = k + jFo f ∧ ∃ q, v = .ref q ∧ jRf ws a q)))
  ∨ (jFg f = 5 ∧ ((fu = false ∧ a = -1 ∧ v = .null) ∨ (jKd a = jFt f ∧ ∃ q, v = .ref q ∧ jRf ws a q)))
theorem jFv_ex {fu : Bool} {ws ws' : va_W} {k : Int} {f : Nat} {a : Int} {v : Value} (h : jEx ws ws') (g : jFv fu ws k f a v) : jFv fu ws' k f a v := by
  rcases g with g | g | ⟨g0, g | ⟨g1, q, g2, g3⟩⟩ | ⟨g0, g | ⟨g1, q, g2, g3⟩⟩
  · exact Or.inl g
  · exact Or.inr (Or.inl g)
  · exact Or.inr (Or.inr (Or.inl ⟨g0, Or.inl g⟩))
  · exact Or.inr (Or.inr (Or.inl ⟨g0, Or.inr ⟨g1, q, g2, jRf_ex h g3⟩⟩))
  · exact Or.inr (Or.inr (Or.inr ⟨g0, Or.inl g⟩))
  · exact Or.inr (Or.inr (Or.inr ⟨g0, Or.inr ⟨g1, q, g2, jRf_ex h g3⟩⟩))
/-- a place of an array of references -/
def jAv (fu : Bool) (ws : va_W) (c : Nat) (a : Int) (o : Option Nat) : Prop := (fu = false ∧ a = -1 ∧ o = none) ∨ (jKd a = c ∧ ∃ q, o = some q ∧ jRf ws a q)
theorem jAv_ex {fu : Bool} {ws ws' : va_W} {c : Nat} {a : Int} {o : Option Nat} (h : jEx ws ws') (g : jAv fu ws c a o) : jAv fu ws' c a o := by
  rcases g with g | ⟨g1, q, g2, g3⟩
  · exact Or.inl g
  · exact Or.inr ⟨g1, q, g2, jRf_ex h g3⟩
def jEn (fu : Bool) (ws : va_W) (tys : List (ClassId × FieldType)) (k : Nat) (m : jM) (e : va_E) : Prop :=
  (jKd k < 12 ∧ ∃ vs, e = .inr (jKd k, vs) ∧ vs.length = jNf (jKd k) ∧ ∀ j : Nat, j < jNf (jKd k) → ∃ v, vs[j]? = some v ∧ jFv fu ws k (jFf (jKd k) j) (m k j) v)
  ∨ (jKd k = 20 ∧ ∃ (cA : ClassId) (f : Nat → Int32) (t0 : Nat), e = .inl (cA, (jLn k).toNat, .inl f) ∧ tys[t0]? = some (cA, .int) ∧ ∀ j : Nat, j < (jLn k).toNat → m k j = (f j).toInt)
  ∨ (jKd k = 21 ∧ ∃ (cA : ClassId) (f : Nat → Int64) (t0 : Nat), e = .inl (cA, (jLn k).toNat, .inr (.inl f)) ∧ tys[t0]? = some (cA, .long) ∧ ∀ j : Nat, j < (jLn k).toNat → m k j = (f j).toInt)
  ∨ ((jKd k = 22 ∨ jKd k = 23) ∧ ∃ (cA : ClassId) (f : Nat → Option Nat) (t0 : Nat), e = .inl (cA, (jLn k).toNat, .inr (.inr (.inr (.inr f)))) ∧ tys[t0]? = some (cA, .object (jRn (jKd k - 16))) ∧ ∀ j : Nat, j < (jLn k).toNat → jAv fu ws (jKd k - 16) (m k j) (f j))
theorem jEn_same {fu : Bool} {ws ws' : va_W} {tys tys' : List (ClassId × FieldType)} {k : Nat} {m m' : jM} {e : va_E} (h : jEx ws ws') (ht : ∀ (i : Nat) (q : ClassId × FieldType), tys[i]? = some q → tys'[i]? = some q) (hm : ∀ j, m' k j = m k j) (g : jEn fu ws tys k m e) : jEn fu ws' tys' k m' e := by
  rcases g with ⟨g0, vs, g1, g2, g3⟩ | ⟨g0, cA, f, t0, g1, g2, g3⟩ | ⟨g0, cA, f, t0, g1, g2, g3⟩ | ⟨g0, cA, f, t0, g1, g2, g3⟩
  · refine Or.inl ⟨g0, vs, g1, g2, fun j hj => ?_⟩
    obtain ⟨v, q1, q2⟩ := g3 j hj
    exact ⟨v, q1, by rw [hm]; exact jFv_ex h q2⟩
  · exact Or.inr (Or.inl ⟨g0, cA, f, t0, g1, ht _ _ g2, fun j hj => by rw [hm]; exact g3 j hj⟩)
  · exact Or.inr (Or.inr (Or.inl ⟨g0, cA, f, t0, g1, ht _ _ g2, fun j hj => by rw [hm]; exact g3 j hj⟩))
  · exact Or.inr (Or.inr (Or.inr ⟨g0, cA, f, t0, g1, ht _ _ g2, fun j hj => by rw [hm]; exact jAv_ex h (g3 j hj)⟩))
/-- the world -/
def jWd (fu : Bool) (ws : va_W) (tys : List (ClassId × FieldType)) (m : jM) : Prop :=
  m (-3) 0 = ws.length ∧ ws.length ≤ 160 ∧ (fu = true → ws.length = 160) ∧ ∀ (k a : Nat) (e : va_E), ws[k]? = some (a, e) → jEn fu ws tys k m e
theorem jWd_set {fu : Bool} {ws : va_W} {tys : List (ClassId × FieldType)} {m m' : jM} {k a : Nat} {e e' : va_E} (h : jWd fu ws tys m) (hk : ws[k]? = some (a, e)) (hm : ∀ (q j : Int), q ≠ k → m' q j = m q j) (he : jEn fu (ws.set k (a, e')) tys k m' e') : jWd fu (ws.set k (a, e')) tys m' := by
  obtain ⟨h1, h2, h3, h4⟩ := h
  have hx := jEx_set hk e'
  have hlt : k < ws.length := (List.getElem?_eq_some_iff.mp hk).1
  refine ⟨by rw [hm _ _ (by omega), List.length_set]; exact h1, by rw [List.length_set]; exact h2, fun q => by rw [List.length_set]; exact h3 q, fun j b f hj => ?_⟩
  by_cases hjk : j = k
  · subst hjk
    have : (ws.set j (a, e'))[j]? = some (a, e') := by simp [hlt]
    rw [this] at hj
    cases hj
    exact he
  · rw [List.getElem?_set_ne (fun q => hjk q.symm)] at hj
    exact jEn_same hx (fun _ _ q => q) (fun i => hm _ _ (by omega)) (h4 j b f hj)
theorem jUp_ne {m : jM} {k i v q j : Int} (h : q ≠ k) : jUp m k i v q j = m q j := by
  unfold jUp
  rw [if_neg (fun z => h z.1)]
theorem jUp_eq {m : jM} {k i v : Int} : jUp m k i v k i = v := by
  unfold jUp
  rw [if_pos ⟨rfl, rfl⟩]
theorem jUp_ni {m : jM} {k i v j : Int} (h : j ≠ i) : jUp m k i v k j = m k j := by
  unfold jUp
  rw [if_neg (fun z => h z.2)]
theorem jWd_iast {fu : Bool} {ws : va_W} {tys : List (ClassId × FieldType)} {m : jM} {k a i : Nat} {cA : ClassId} {n t0 : Nat} {f : Nat → Int32} (h : jWd fu ws tys m) (hk : ws[k]? = some (a, .inl (cA, n, .inl f))) (hd : jKd k = 20) (ht : tys[t0]? = some (cA, .int)) (hn : n = (jLn k).toNat) (hf : ∀ j : Nat, j < n → m k j = (f j).toInt) (x : Int32) :
    jWd fu (ws.set k (a, .inl (cA, n, .inl (upd f i x)))) tys (jUp m k i x.toInt) := by
  refine jWd_set h hk (fun q j hq => jUp_ne hq) (Or.inr (Or.inl ⟨hd, cA, _, t0, by rw [hn], ht, fun j hj => ?_⟩))
  by_cases hji : j = i
  · subst hji
    rw [jUp_eq]
    simp [upd]
  · rw [jUp_ni (by omega), hf j (by omega)]
    simp [upd, hji]
theorem jWd_last {fu : Bool} {ws : va_W} {tys : List (ClassId × FieldType)} {m : jM} {k a i : Nat} {cA : ClassId} {n t0 : Nat} {f : Nat → Int64} (h : jWd fu ws tys m) (hk : ws[k]? = some (a, .inl (cA, n, .inr (.inl f)))) (hd : jKd k = 21) (ht : tys[t0]? = some (cA, .long)) (hn : n = (jLn k).toNat) (hf : ∀ j : Nat, j < n → m k j = (f j).toInt) (x : Int64) :
    jWd fu (ws.set k (a, .inl (cA, n, .inr (.inl (vp_updL f i x))))) tys (jUp m k i x.toInt) := by
  refine jWd_set h hk (fun q j hq => jUp_ne hq) (Or.inr (Or.inr (Or.inl ⟨hd, cA, _, t0, by rw [hn], ht, fun j hj => ?_⟩)))
  by_cases hji : j = i
  · subst hji
    rw [jUp_eq]
    simp [vp_updL]
  · rw [jUp_ni (by omega), hf j (by omega)]
    simp [vp_updL, hji]
theorem jWd_aast {fu : Bool} {ws : va_W} {tys : List (ClassId × FieldType)} {m : jM} {k a i : Nat} {cA : ClassId} {n t0 q : Nat} {f : Nat → Option Nat} {b : Int} (h : jWd fu ws tys m) (hk : ws[k]? = some (a, .inl (cA, n, .inr (.inr (.inr (.inr f)))))) (hd : jKd k = 22 ∨ jKd k = 23) (ht : tys[t0]? = some (cA, .object (jRn (jKd k - 16)))) (hn : n = (jLn k).toNat) (hf : ∀ j : Nat, j < n → jAv fu ws (jKd k - 16) (m k j) (f j)) (hb : jKd b = jKd k - 16) (hq : jRf ws b q) :
    jWd fu (ws.set k (a, .inl (cA, n, .inr (.inr (.inr (.inr (va_up f i (some q)))))))) tys (jUp m k i b) := by
  have hx := jEx_set hk (.inl (cA, n, .inr (.inr (.inr (.inr (va_up f i (some q)))))))
  refine jWd_set h hk (fun q j hq => jUp_ne hq) (Or.inr (Or.inr (Or.inr ⟨hd, cA, _, t0, by rw [hn], ht, fun j hj => ?_⟩)))
  by_cases hji : j = i
  · subst hji
    rw [jUp_eq]
    exact Or.inr ⟨hb, q, by simp [va_up], jRf_ex hx hq⟩
  · rw [jUp_ni (by omega)]
    have := jAv_ex hx (hf j (by omega))
    simpa [va_up, hji] using this
theorem jWd_put {fu : Bool} {ws : va_W} {tys : List (ClassId × FieldType)} {m : jM} {k a j : Nat} {vs : List Value} {b : Int} {v : Value} (h : jWd fu ws tys m) (hk : ws[k]? = some (a, .inr (jKd k, vs))) (hd : jKd k < 12) (hl : vs.length = jNf (jKd k)) (hf : ∀ j : Nat, j < jNf (jKd k) → ∃ v, vs[j]? = some v ∧ jFv fu ws k (jFf (jKd k) j) (m k j) v) (hj : j < jNf (jKd k)) (hv : jFv fu ws k (jFf (jKd k) j) b v) :
    jWd fu (ws.set k (a, .inr (jKd k, vs.set j v))) tys (jUp m k j b) := by
  have hx := jEx_set hk (.inr (jKd k, vs.set j v))
  refine jWd_set h hk (fun q j hq => jUp_ne hq) (Or.inl ⟨hd, vs.set j v, rfl, by rw [List.length_set]; exact hl, fun i hi => ?_⟩)
  by_cases hji : i = j
  · subst hji
    refine ⟨v, by simp [hl, hj], ?_⟩
    rw [jUp_eq]
    exact jFv_ex hx hv
  · obtain ⟨v', q1, q2⟩ := hf i hi
    refine ⟨v', by rw [List.getElem?_set_ne (fun q => hji q.symm)]; exact q1, ?_⟩
    rw [jUp_ni (by omega)]
    exact jFv_ex hx q2
/-- what lies at a cell of a kind -/
theorem jWd_int {fu : Bool} {ws : va_W} {tys : List (ClassId × FieldType)} {m : jM} {k : Int} {a : Nat} (h : jWd fu ws tys m) (hr : jRf ws k a) (hd : jKd k = 20) : ∃ (cA : ClassId) (f : Nat → Int32) (t0 : Nat), ws[k.toNat]? = some (a, .inl (cA, (jLn k).toNat, .inl f)) ∧ tys[t0]? = some (cA, .int) ∧ ∀ j : Nat, j < (jLn k).toNat → m k j = (f j).toInt := by
  obtain ⟨h0, e, he⟩ := hr
  obtain ⟨k, rfl⟩ := Int.eq_ofNat_of_zero_le h0
  rcases h.2.2.2 _ _ _ he with ⟨g0, _⟩ | ⟨g0, cA, f, t0, g1, g2, g3⟩ | ⟨g0, _⟩ | ⟨g0, _⟩
  · exact absurd g0 (by simp only [Int.toNat_natCast]; omega)
  · subst g1; exact ⟨cA, f, t0, he, g2, g3⟩
  · exact absurd g0 (by simp only [Int.toNat_natCast]; omega)
  · exact absurd g0 (by simp only [Int.toNat_natCast]; omega)
theorem jWd_lng {fu : Bool} {ws : va_W} {tys : List (ClassId × FieldType)} {m : jM} {k : Int} {a : Nat} (h : jWd fu ws tys m) (hr : jRf ws k a) (hd : jKd k = 21) : ∃ (cA : ClassId) (f : Nat → Int64) (t0 : Nat), ws[k.toNat]? = some (a, .inl (cA, (jLn k).toNat, .inr (.inl f))) ∧ tys[t0]? = some (cA, .long) ∧ ∀ j : Nat, j < (jLn k).toNat → m k j = (f j).toInt := by
  obtain ⟨h0, e, he⟩ := hr
  obtain ⟨k, rfl⟩ := Int.eq_ofNat_of_zero_le h0
  rcases h.2.2.2 _ _ _ he with ⟨g0, _⟩ | ⟨g0, _⟩ | ⟨g0, cA, f, t0, g1, g2, g3⟩ | ⟨g0, _⟩
  · exact absurd g0 (by simp only [Int.toNat_natCast]; omega)
  · exact absurd g0 (by simp only [Int.toNat_natCast]; omega)
  · subst g1; exact ⟨cA, f, t0, he, g2, g3⟩
  · exact absurd g0 (by simp only [Int.toNat_natCast]; omega)
theorem jWd_ref {fu : Bool} {ws : va_W} {tys : List (ClassId × FieldType)} {m : jM} {k : Int} {a : Nat} (h : jWd fu ws tys m) (hr : jRf ws k a) (hd : jKd k = 22 ∨ jKd k = 23) : ∃ (cA : ClassId) (f : Nat → Option Nat) (t0 : Nat), ws[k.toNat]? = some (a, .inl (cA, (jLn k).toNat, .inr (.inr (.inr (.inr f))))) ∧ tys[t0]? = some (cA, .object (jRn (jKd k - 16))) ∧ ∀ j : Nat, j < (jLn k).toNat → jAv fu ws (jKd k - 16) (m k j) (f j) := by
  obtain ⟨h0, e, he⟩ := hr
  obtain ⟨k, rfl⟩ := Int.eq_ofNat_of_zero_le h0
  rcases h.2.2.2 _ _ _ he with ⟨g0, _⟩ | ⟨g0, _⟩ | ⟨g0, _⟩ | ⟨g0, cA, f, t0, g1, g2, g3⟩
  · exact absurd g0 (by simp only [Int.toNat_natCast]; omega)
  · exact absurd g0 (by simp only [Int.toNat_natCast]; omega)
  · exact absurd g0 (by simp only [Int.toNat_natCast]; omega)
  · subst g1; exact ⟨cA, f, t0, he, g2, g3⟩
theorem jWd_obj {fu : Bool} {ws : va_W} {tys : List (ClassId × FieldType)} {m : jM} {k : Int} {a : Nat} (h : jWd fu ws tys m) (hr : jRf ws k a) (hd : jKd k < 12) : ∃ vs, ws[k.toNat]? = some (a, .inr (jKd k, vs)) ∧ vs.length = jNf (jKd k) ∧ ∀ j : Nat, j < jNf (jKd k) → ∃ v, vs[j]? = some v ∧ jFv fu ws k (jFf (jKd k) j) (m k j) v := by
  obtain ⟨h0, e, he⟩ := hr
  obtain ⟨k, rfl⟩ := Int.eq_ofNat_of_zero_le h0
  rcases h.2.2.2 _ _ _ he with ⟨g0, vs, g1, g2, g3⟩ | ⟨g0, _⟩ | ⟨g0, _⟩ | ⟨g0, _⟩
  · subst g1; exact ⟨vs, he, g2, g3⟩
  · exact absurd g0 (by simp only [Int.toNat_natCast]; omega)
  · exact absurd g0 (by simp only [Int.toNat_natCast]; omega)
  · exact absurd g0 (by simp only [Int.toNat_natCast]; omega)

/-! merging: the first of all heads is taken time and again -/
theorem top_map {f f' : List Int → Int} {g : List Int → List Int} {v : Int} {L T : List (List Int)} (h : Top f L T) (hf : ∀ l ∈ L, f' (g l) = v + f l) (hg : ∀ x y, lxl x y → lxl (g x) (g y)) : Top f' (L.map g) (T.map g) := by
  obtain ⟨a1, a2, a3, a4⟩ := h
  have hlt : ∀ x ∈ L, ∀ y ∈ L, ltk f x y → ltk f' (g x) (g y) := by
    intro x hx y hy h
    have h1 := hf x hx
    have h2 := hf y hy
    rcases h with h | ⟨h, h3⟩
    · left; omega
    · right; exact ⟨by omega, hg x y h3⟩
  refine ⟨?_, fun x hx => ?_, by rw [List.length_map]; exact a3, fun x hx hn => ?_⟩
  · rw [List.pairwise_map]
    refine a1.imp_of_mem (fun hx hy h => hlt _ (a2 _ hx) _ (a2 _ hy) h)
  · obtain ⟨l, hl, rfl⟩ := List.mem_map.mp hx
    exact List.mem_map.mpr ⟨l, a2 l hl, rfl⟩
  · obtain ⟨l, hl, rfl⟩ := List.mem_map.mp hx
    obtain ⟨c1, c2⟩ := a4 l hl (fun g2 => hn (List.mem_map.mpr ⟨l, g2, rfl⟩))
    refine ⟨by rw [List.length_map]; exact c1, fun y hy => ?_⟩
    obtain ⟨y', hy', rfl⟩ := List.mem_map.mp hy
    exact hlt y' (a2 y' hy') l hl (c2 y' hy')
def gtD (T : List (List Int)) (i : Int) : List Int := T.getD i.toNat []
theorem gtD_mem {T : List (List Int)} {i : Int} (h0 : 0 ≤ i) (h : i < T.length) : gtD T i ∈ T := by
  unfold gtD
  rw [List.getD_eq_getElem?_getD, List.getElem?_eq_getElem (by omega)]
  exact List.getElem_mem _
theorem gtD_lt {f : List Int → Int} {T : List (List Int)} (hT : T.Pairwise (ltk f)) {i j : Int} (h0 : 0 ≤ i) (hij : i < j) (hj : j < T.length) : ltk f (gtD T i) (gtD T j) := by
  unfold gtD
  rw [List.getD_eq_getElem?_getD, List.getElem?_eq_getElem (show i.toNat < T.length by omega), List.getD_eq_getElem?_getD, List.getElem?_eq_getElem (show j.toNat < T.length by omega)]
  exact srt_get hT (by omega) (by omega)
theorem gtD_ex {T : List (List Int)} {x : List Int} (h : x ∈ T) : ∃ i : Int, 0 ≤ i ∧ i < T.length ∧ gtD T i = x := by
  obtain ⟨i, hi, rfl⟩ := List.getElem_of_mem h
  refine ⟨i, by omega, by omega, ?_⟩
  unfold gtD
  rw [List.getD_eq_getElem?_getD, List.getElem?_eq_getElem (by omega)]
  rfl
def mIn (f : List Int → Int) (Lf : Int → List (List Int)) (h : Int → Int) (M : List (List Int)) : Prop :=
  M.Pairwise (ltk f) ∧ M.length ≤ 12 ∧ sv h 8 0 = M.length ∧ (∀ j : Int, 0 ≤ j → j < 8 → 0 ≤ h j ∧ h j ≤ (Lf j).length) ∧
  (∀ x, x ∈ M ↔ ∃ j i : Int, 0 ≤ j ∧ j < 8 ∧ 0 ≤ i ∧ i < h j ∧ gtD (Lf j) i = x) ∧
  (∀ y ∈ M, ∀ j i : Int, 0 ≤ j → j < 8 → h j ≤ i → i < (Lf j).length → ltk f y (gtD (Lf j) i))
theorem mIn_0 (f : List Int → Int) (Lf : Int → List (List Int)) {h : Int → Int} (h0 : ∀ j : Int, 0 ≤ j → j < 8 → h j = 0) : mIn f Lf h [] := by
  refine ⟨List.Pairwise.nil, Nat.zero_le _, ?_, fun j h1 h2 => by rw [h0 j h1 h2]; omega, fun x => ⟨(fun g => by cases g), ?_⟩, (fun y hy => by cases hy)⟩
  · rw [sv_congr (g := fun _ => 0) 8 0 (fun x h1 h2 => h0 x h1 (by omega)), sv_0]; rfl
  · rintro ⟨j, i, h1, h2, h3, h4, _⟩
    rw [h0 j h1 h2] at h4; omega
theorem mIn_s {f : List Int → Int} {Lf X : Int → List (List Int)} {h h' : Int → Int} {M : List (List Int)} {j0 : Int} (hT : ∀ j : Int, 0 ≤ j → j < 8 → Top f (X j) (Lf j)) (hX : ∀ j : Int, ∀ l ∈ X j, ∃ l', l = j :: l') (hM : mIn f Lf h M) (hl : M.length < 12) (hj : 0 ≤ j0 ∧ j0 < 8) (hh : h j0 < (Lf j0).length)
    (hmin : ∀ j : Int, 0 ≤ j → j < 8 → h j < (Lf j).length → f (gtD (Lf j0) (h j0)) < f (gtD (Lf j) (h j)) ∨ (f (gtD (Lf j0) (h j0)) = f (gtD (Lf j) (h j)) ∧ j0 ≤ j))
    (hne : ∀ j, j ≠ j0 → h' j = h j) (he : h' j0 = h j0 + 1) : mIn f Lf h' (M ++ [gtD (Lf j0) (h j0)]) := by
  obtain ⟨a1, a2, a3, a4, a5, a6⟩ := hM
  have hsrt : ∀ j : Int, 0 ≤ j → j < 8 → (Lf j).Pairwise (ltk f) := fun j h1 h2 => (hT j h1 h2).1
  have hr0 := a4 j0 hj.1 hj.2
  -- what remains is more than the new one
  have hrem : ∀ j i : Int, 0 ≤ j → j < 8 → h' j ≤ i → i < (Lf j).length → ltk f (gtD (Lf j0) (h j0)) (gtD (Lf j) i) := by
    intro j i h1 h2 h3 h4
    have hr := a4 j h1 h2
    by_cases hjj : j = j0
    · subst hjj
      exact gtD_lt (hsrt j h1 h2) hr.1 (by omega) h4
    · rw [hne j hjj] at h3
      have hx : ltk f (gtD (Lf j0) (h j0)) (gtD (Lf j) (h j)) := by
        rcases hmin j h1 h2 (by omega) with g | ⟨g1, g2⟩
        · exact Or.inl g
        · right
          obtain ⟨x', hx'⟩ := hX j0 _ ((hT j0 hj.1 hj.2).2.1 _ (gtD_mem hr0.1 hh))
          obtain ⟨y', hy'⟩ := hX j _ ((hT j h1 h2).2.1 _ (gtD_mem hr.1 (show h j < (Lf j).length by omega)))
          refine ⟨g1, ?_⟩
          rw [hx', hy']
          exact Or.inl (by omega)
      by_cases hih : i = h j
      · rw [hih]; exact hx
      · exact ltk_tr hx (gtD_lt (hsrt j h1 h2) hr.1 (by omega) h4)
  refine ⟨?_, by rw [List.length_append]; simp; omega, ?_, fun j h1 h2 => ?_, fun x => ?_, fun y hy j i h1 h2 h3 h4 => ?_⟩
  · rw [List.pairwise_append]
    refine ⟨a1, List.pairwise_singleton _ _, fun y hy z hz => ?_⟩
    rw [List.mem_singleton] at hz
    rw [hz]
    exact a6 y hy j0 (h j0) hj.1 hj.2 (Int.le_refl _) hh
  · rw [sv_up (f := h) (t := j0) (fun x hx => hne x hx) 8 0 (by omega) (by omega), a3, he, List.length_append]
    simp
    omega
  · by_cases hjj : j = j0
    · rw [hjj, he]; omega
    · rw [hne j hjj]; exact a4 j h1 h2
  · rw [List.mem_append, List.mem_singleton, a5]
    constructor
    · rintro (⟨j, i, h1, h2, h3, h4, h5⟩ | h5)
      · refine ⟨j, i, h1, h2, h3, ?_, h5⟩
        by_cases hjj : j = j0
        · rw [hjj] at h4 ⊢; omega
        · rw [hne j hjj]; exact h4
      · exact ⟨j0, h j0, hj.1, hj.2, hr0.1, by omega, h5.symm⟩
    · rintro ⟨j, i, h1, h2, h3, h4, h5⟩
      by_cases hjj : j = j0
      · subst hjj
        by_cases hih : i = h j
        · right; rw [← h5, hih]
        · left; exact ⟨j, i, h1, h2, h3, by omega, h5⟩
      · left
        rw [hne j hjj] at h4
        exact ⟨j, i, h1, h2, h3, h4, h5⟩
  · rcases List.mem_append.mp hy with g | g
    · by_cases hjj : j = j0
      · subst hjj
        exact a6 y g j i h1 h2 (by omega) h4
      · rw [hne j hjj] at h3
        exact a6 y g j i h1 h2 h3 h4
    · rw [List.mem_singleton] at g
      rw [g]
      exact hrem j i h1 h2 h3 h4
theorem sv_le {f : Int → Int} (r : Nat) : ∀ j : Int, (∀ x : Int, j ≤ x → x < j + r → 0 ≤ f x) → 0 ≤ sv f r j ∧ ∀ x : Int, j ≤ x → x < j + r → f x ≤ sv f r j := by
  induction r with
  | zero => intro j _; exact ⟨Int.le_refl _, fun x h1 h2 => by omega⟩
  | succ r ih =>
    intro j h
    obtain ⟨a, b⟩ := ih (j + 1) (fun x h1 h2 => h x (by omega) (by omega))
    have h0 := h j (by omega) (by omega)
    rw [sv_s]
    refine ⟨by omega, fun x h1 h2 => ?_⟩
    by_cases he : x = j
    · rw [he]; omega
    · have := b x (by omega) (by omega); omega
theorem sv_le2 {f : Int → Int} {x y : Int} (hxy : x ≠ y) (r : Nat) : ∀ j : Int, (∀ x : Int, j ≤ x → x < j + r → 0 ≤ f x) → j ≤ x → x < j + r → j ≤ y → y < j + r → f x + f y ≤ sv f r j := by
  induction r with
  | zero => intro j _ h1 h2; omega
  | succ r ih =>
    intro j h h1 h2 h3 h4
    rw [sv_s]
    obtain ⟨a, b⟩ := sv_le (f := f) r (j + 1) (fun x h1 h2 => h x (by omega) (by omega))
    by_cases hx : x = j
    · have := b y (by omega) (by omega)
      rw [hx]; omega
    · by_cases hy : y = j
      · have := b x (by omega) (by omega)
        rw [hy]; omega
      · have := ih (j + 1) (fun x h1 h2 => h x (by omega) (by omega)) (by omega) (by omega) (by omega) (by omega)
        have := h j (by omega) (by omega)
        omega
theorem mIn_top {f : List Int → Int} {Lf X : Int → List (List Int)} {h : Int → Int} {M : List (List Int)} (hT : ∀ j : Int, 0 ≤ j → j < 8 → Top f (X j) (Lf j)) (hM : mIn f Lf h M) (hend : M.length = 12 ∨ ∀ j : Int, 0 ≤ j → j < 8 → h j = (Lf j).length) : Top f (fm X 8) M := by
  obtain ⟨a1, a2, a3, a4, a5, a6⟩ := hM
  refine ⟨a1, fun x hx => ?_, a2, fun z hz hn => ?_⟩
  · obtain ⟨j, i, h1, h2, h3, h4, rfl⟩ := (a5 x).mp hx
    rw [fm_mem]
    refine ⟨j.toNat, by omega, ?_⟩
    rw [Int.toNat_of_nonneg h1]
    have := a4 j h1 h2
    exact (hT j h1 h2).2.1 _ (gtD_mem h3 (by omega))
  · obtain ⟨j, hj, hzj⟩ := fm_mem.mp hz
    have hj1 : 0 ≤ (j : Int) ∧ (j : Int) < 8 := by omega
    generalize (j : Int) = j' at *
    have hr := a4 j' hj1.1 hj1.2
    by_cases hzL : z ∈ Lf j'
    · obtain ⟨i, h1, h2, h3⟩ := gtD_ex hzL
      have hi : h j' ≤ i := by
        apply Decidable.byContradiction
        intro g
        exact hn ((a5 z).mpr ⟨j', i, hj1.1, hj1.2, h1, by omega, h3⟩)
      refine ⟨?_, fun y hy => by rw [← h3]; exact a6 y hy j' i hj1.1 hj1.2 hi h2⟩
      rcases hend with g | g
      · exact g
      · have := g j' hj1.1 hj1.2; omega
    · obtain ⟨c1, c2⟩ := (hT j' hj1.1 hj1.2).2.2.2 z hzj hzL
      have hle := (sv_le (f := h) 8 0 (fun x h1 h2 => (a4 x h1 (by omega)).1)).2 j' hj1.1 (by omega)
      have h12 : M.length = 12 := by
        rcases hend with g | g
        · exact g
        · have := g j' hj1.1 hj1.2; omega
      refine ⟨h12, fun y hy => ?_⟩
      by_cases hlast : h j' = 12
      · obtain ⟨j2, i, h1, h2, h3, h4, h5⟩ := (a5 y).mp hy
        have : j2 = j' := by
          apply Decidable.byContradiction
          intro g
          have := sv_le2 (f := h) g 8 0 (fun x h1 h2 => (a4 x h1 (by omega)).1) h1 (by omega) hj1.1 (by omega)
          omega
        subst this
        rw [← h5]
        exact c2 _ (gtD_mem h3 (by omega))
      · exact ltk_tr (a6 y hy j' 11 hj1.1 hj1.2 (by omega) (by omega)) (c2 _ (gtD_mem (by omega) (by omega)))

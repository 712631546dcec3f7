/-! the first twelve by (value, order) -/
def lxl : List Int → List Int → Prop
  | a :: x, c :: y => a < c ∨ (a = c ∧ lxl x y)
  | _, _ => False
def ltk (f : List Int → Int) (x y : List Int) : Prop := f x < f y ∨ (f x = f y ∧ lxl x y)
theorem lxl_irr : ∀ x : List Int, ¬ lxl x x := by
  intro x
  induction x with
  | nil => exact id
  | cons a x ih =>
    rintro (h | ⟨_, h⟩)
    · omega
    · exact ih h
theorem lxl_tr : ∀ {x y z : List Int}, lxl x y → lxl y z → lxl x z := by
  intro x
  induction x with
  | nil => intro y z h; exact h.elim
  | cons a x ih =>
    intro y z h1 h2
    match y, z, h1, h2 with
    | b :: y, c :: z, h1, h2 =>
      rcases h1 with h1 | ⟨h1, h3⟩ <;> rcases h2 with h2 | ⟨h2, h4⟩
      · left; omega
      · left; omega
      · left; omega
      · right; exact ⟨by omega, ih h3 h4⟩
theorem lxl_app {p x y : List Int} (h : lxl x y) : lxl (p ++ x) (p ++ y) := by
  induction p with
  | nil => exact h
  | cons a p ih => exact Or.inr ⟨rfl, ih⟩
theorem ltk_irr (f : List Int → Int) (x : List Int) : ¬ ltk f x x := by
  rintro (h | ⟨_, h⟩)
  · omega
  · exact lxl_irr x h
theorem ltk_tr {f : List Int → Int} {x y z : List Int} (h1 : ltk f x y) (h2 : ltk f y z) : ltk f x z := by
  rcases h1 with h1 | ⟨h1, h3⟩ <;> rcases h2 with h2 | ⟨h2, h4⟩
  · left; omega
  · left; omega
  · left; omega
  · right; exact ⟨by omega, lxl_tr h3 h4⟩
theorem ltk_le {f : List Int → Int} {x y : List Int} (h : ltk f x y) : f x ≤ f y := by
  rcases h with h | ⟨h, _⟩ <;> omega
def Top (f : List Int → Int) (L T : List (List Int)) : Prop := T.Pairwise (ltk f) ∧ (∀ x ∈ T, x ∈ L) ∧ T.length ≤ 12 ∧ ∀ x ∈ L, x ∉ T → T.length = 12 ∧ ∀ y ∈ T, ltk f y x
theorem srt_uniq {f : List Int → Int} : ∀ {A B : List (List Int)}, A.Pairwise (ltk f) → B.Pairwise (ltk f) → (∀ x, x ∈ A ↔ x ∈ B) → A = B := by
  intro A
  induction A with
  | nil =>
    intro B _ _ h
    cases B with
    | nil => rfl
    | cons b B => exact absurd ((h b).mpr List.mem_cons_self) List.not_mem_nil
  | cons a A ih =>
    intro B hA hB h
    cases B with
    | nil => exact absurd ((h a).mp List.mem_cons_self) List.not_mem_nil
    | cons b B =>
      rw [List.pairwise_cons] at hA hB
      have hab : a = b := by
        rcases List.mem_cons.mp ((h a).mp List.mem_cons_self) with g | g
        · exact g
        · rcases List.mem_cons.mp ((h b).mpr List.mem_cons_self) with g2 | g2
          · exact g2.symm
          · exact absurd (ltk_tr (hA.1 b g2) (hB.1 a g)) (ltk_irr f a)
      subst hab
      congr 1
      refine ih hA.2 hB.2 (fun x => ⟨fun g => ?_, fun g => ?_⟩)
      · rcases List.mem_cons.mp ((h x).mp (List.mem_cons_of_mem _ g)) with g2 | g2
        · rw [g2] at g; exact absurd (hA.1 a g) (ltk_irr f a)
        · exact g2
      · rcases List.mem_cons.mp ((h x).mpr (List.mem_cons_of_mem _ g)) with g2 | g2
        · rw [g2] at g; exact absurd (hB.1 a g) (ltk_irr f a)
        · exact g2
theorem nod_len {α : Type} [DecidableEq α] : ∀ {A B : List α}, A.Nodup → (∀ x ∈ A, x ∈ B) → A.length ≤ B.length := by
  intro A
  induction A with
  | nil => intro B _ _; exact Nat.zero_le _
  | cons a A ih =>
    intro B hA h
    rw [List.nodup_cons] at hA
    have hb := h a List.mem_cons_self
    have h1 := ih (B := B.erase a) hA.2 (fun x hx => (List.mem_erase_of_ne (by rintro rfl; exact hA.1 hx)).mpr (h x (List.mem_cons_of_mem _ hx)))
    rw [List.length_erase_of_mem hb] at h1
    have h2 := List.length_pos_of_mem hb
    simp only [List.length_cons]
    omega
theorem srt_nod {f : List Int → Int} {A : List (List Int)} (h : A.Pairwise (ltk f)) : A.Nodup := by
  refine h.imp ?_
  intro a b hab e
  subst e
  exact ltk_irr f a hab
theorem top_sub {f : List Int → Int} {L T T' : List (List Int)} (h : Top f L T) (h' : Top f L T') : ∀ x ∈ T, x ∈ T' := by
  intro x hx
  apply Classical.byContradiction
  intro hn
  obtain ⟨a1, a2, a3, a4⟩ := h
  obtain ⟨b1, b2, b3, b4⟩ := h'
  obtain ⟨c1, c2⟩ := b4 x (a2 x hx) hn
  have hex : ∃ y ∈ T', y ∉ T := by
    apply Classical.byContradiction
    intro hne
    have h1 : ∀ y ∈ T', y ∈ T.erase x := fun y hy => (List.mem_erase_of_ne (by rintro rfl; exact hn hy)).mpr (Classical.byContradiction fun g => hne ⟨y, hy, g⟩)
    have h2 := nod_len (srt_nod b1) h1
    rw [List.length_erase_of_mem hx] at h2
    have := List.length_pos_of_mem hx
    omega
  obtain ⟨y, hy, hyn⟩ := hex
  obtain ⟨d1, d2⟩ := a4 y (b2 y hy) hyn
  exact ltk_irr f x (ltk_tr (d2 x hx) (c2 y hy))
theorem top_uniq {f : List Int → Int} {L T T' : List (List Int)} (h : Top f L T) (h' : Top f L T') : T = T' :=
  srt_uniq h.1 h'.1 (fun x => ⟨top_sub h h' x, top_sub h' h x⟩)
theorem top_nil (f : List Int → Int) : Top f [] [] := ⟨List.Pairwise.nil, fun _ h => h, Nat.zero_le _, fun _ h => absurd h List.not_mem_nil⟩
theorem top_ins {f : List Int → Int} {P T : List (List Int)} {x : List Int} {n : Nat} (h : Top f P T) (hx : ∀ p ∈ P, lxl p x) (hn : n ≤ T.length) (h1 : ∀ y ∈ T.take n, f y ≤ f x) (h2 : ∀ y ∈ T.drop n, f x < f y) : Top f (P ++ [x]) ((T.take n ++ x :: T.drop n).take 12) := by
  obtain ⟨a1, a2, a3, a4⟩ := h
  have hp : (T.take n ++ x :: T.drop n).Pairwise (ltk f) := by
    have a1' := a1
    rw [← List.take_append_drop n T, List.pairwise_append] at a1'
    rw [List.pairwise_append, List.pairwise_cons]
    refine ⟨a1'.1, ⟨fun y hy => Or.inl (h2 y hy), a1'.2.1⟩, fun y hy z hz => ?_⟩
    rcases List.mem_cons.mp hz with rfl | hz
    · have := h1 y hy
      by_cases g : f y = f z
      · exact Or.inr ⟨g, hx y (a2 y (List.mem_of_mem_take hy))⟩
      · left; omega
    · exact a1'.2.2 y hy z hz
  have hlen : (T.take n ++ x :: T.drop n).length = T.length + 1 := by
    rw [List.length_append, List.length_cons, List.length_take, List.length_drop]; omega
  have hmem : ∀ y, y ∈ T.take n ++ x :: T.drop n ↔ y ∈ T ∨ y = x := by
    intro y
    rw [List.mem_append, List.mem_cons]
    have : y ∈ T ↔ y ∈ T.take n ∨ y ∈ T.drop n := by rw [← List.mem_append, List.take_append_drop]
    rw [this]
    constructor
    · rintro (g | g | g)
      · exact Or.inl (Or.inl g)
      · exact Or.inr g
      · exact Or.inl (Or.inr g)
    · rintro ((g | g) | g)
      · exact Or.inl g
      · exact Or.inr (Or.inr g)
      · exact Or.inr (Or.inl g)
  have hsplit := hp
  rw [← List.take_append_drop 12 (T.take n ++ x :: T.drop n), List.pairwise_append] at hsplit
  have hrest : ∀ z, z ∈ T.take n ++ x :: T.drop n → z ∉ (T.take n ++ x :: T.drop n).take 12 → ((T.take n ++ x :: T.drop n).take 12).length = 12 ∧ ∀ y ∈ (T.take n ++ x :: T.drop n).take 12, ltk f y z := by
    intro z hz hzn
    have hz2 : z ∈ (T.take n ++ x :: T.drop n).drop 12 := by
      rw [← List.take_append_drop 12 (T.take n ++ x :: T.drop n), List.mem_append] at hz
      exact hz.resolve_left hzn
    have := List.length_pos_of_mem hz2
    rw [List.length_drop] at this
    exact ⟨by rw [List.length_take]; omega, fun y hy => hsplit.2.2 y hy z hz2⟩
  refine ⟨hsplit.1, fun y hy => ?_, by rw [List.length_take]; omega, fun z hz hzn => ?_⟩
  · rcases (hmem y).mp (List.mem_of_mem_take hy) with g | g
    · exact List.mem_append.mpr (Or.inl (a2 y g))
    · exact List.mem_append.mpr (Or.inr (List.mem_singleton.mpr g))
  · by_cases hzT : z ∈ T
    · exact hrest z ((hmem z).mpr (Or.inl hzT)) hzn
    · rcases List.mem_append.mp hz with hzP | hzx
      · obtain ⟨c1, c2⟩ := a4 z hzP hzT
        refine ⟨by rw [List.length_take]; omega, fun y hy => ?_⟩
        by_cases hyT : y ∈ T
        · exact c2 y hyT
        · have hyx := ((hmem y).mp (List.mem_of_mem_take hy)).resolve_left hyT
          subst hyx
          cases hd : T.drop n with
          | nil =>
            exfalso
            apply hyT
            rw [hd] at hy
            have e : T.take n = T := by
              have := List.take_append_drop n T
              rw [hd, List.append_nil] at this
              exact this
            rw [e, List.take_append_of_le_length (by omega), List.take_of_length_le (by omega)] at hy
            exact hy
          | cons w W =>
            have hw : w ∈ T.drop n := by rw [hd]; exact List.mem_cons_self
            exact ltk_tr (Or.inl (h2 w hw)) (c2 w (List.mem_of_mem_drop hw))
      · rw [List.mem_singleton] at hzx
        exact hrest z ((hmem z).mpr (Or.inr hzx)) hzn
theorem top_skip {f : List Int → Int} {P T X : List (List Int)} (h : Top f P T) (hl : X = [] ∨ T.length = 12) (hx : ∀ x ∈ X, ∀ y ∈ T, f y ≤ f x ∧ lxl y x) : Top f (P ++ X) T := by
  obtain ⟨a1, a2, a3, a4⟩ := h
  refine ⟨a1, fun y hy => List.mem_append.mpr (Or.inl (a2 y hy)), a3, fun z hz hzn => ?_⟩
  rcases List.mem_append.mp hz with g | g
  · exact a4 z g hzn
  · rcases hl with hl | hl
    · rw [hl] at g; cases g
    · refine ⟨hl, fun y hy => ?_⟩
      have := hx z g y hy
      by_cases e : f y = f z
      · exact Or.inr ⟨e, this.2⟩
      · left; omega
theorem srt_get {f : List Int → Int} {T : List (List Int)} (h : T.Pairwise (ltk f)) {i j : Nat} (hij : i < j) (hj : j < T.length) : ltk f (T[i]'(by omega)) T[j] := List.pairwise_iff_getElem.mp h i j (by omega) hj hij
theorem fm_pw {g : Int → List (List Int)} (h1 : ∀ j : Nat, (g j).Pairwise lxl) (h2 : ∀ j : Nat, ∀ l ∈ g j, ∃ l', l = (j : Int) :: l') (n : Nat) : (fm g n).Pairwise lxl := by
  induction n with
  | zero => exact List.Pairwise.nil
  | succ n ih =>
    unfold fm
    rw [List.pairwise_append]
    refine ⟨ih, h1 n, fun x hx y hy => ?_⟩
    obtain ⟨j, hj, hxj⟩ := fm_mem.mp hx
    obtain ⟨x', rfl⟩ := h2 j x hxj
    obtain ⟨y', rfl⟩ := h2 n y hy
    exact Or.inl (by omega)
theorem mts_pw (o : Int → Int → Bool) (C : Int → Bool) (k : Nat) : ∀ s, (mts o C k s).Pairwise lxl := by
  induction k with
  | zero => intro s; exact List.pairwise_singleton _ _
  | succ k ih =>
    have hm : ∀ (a s : Int), ((mts o C k s).map (fun l => a :: l)).Pairwise lxl := by
      intro a s
      rw [List.pairwise_map]
      exact (ih s).imp (fun h => Or.inr ⟨rfl, h⟩)
    intro s
    rw [mts_s]
    split
    · refine fm_pw (fun j => ?_) (fun j l hl => ?_) 8
      · split
        · exact hm _ _
        · exact List.Pairwise.nil
      · split at hl
        · obtain ⟨l', _, rfl⟩ := List.mem_map.mp hl
          exact ⟨l', rfl⟩
        · cases hl
    · exact hm _ _
theorem mts_len {o : Int → Int → Bool} {C : Int → Bool} (k : Nat) : ∀ s l, l ∈ mts o C k s → l.length = k := by
  induction k with
  | zero => intro s l hl; simp [mts] at hl; rw [hl]; rfl
  | succ k ih =>
    intro s l hl
    rw [mts_s] at hl
    split at hl
    · obtain ⟨j, _, hj⟩ := fm_mem.mp hl
      split at hj
      · obtain ⟨l', h1, rfl⟩ := List.mem_map.mp hj
        rw [List.length_cons, ih _ _ h1]
      · cases hj
    · obtain ⟨l', h1, rfl⟩ := List.mem_map.mp hl
      rw [List.length_cons, ih _ _ h1]

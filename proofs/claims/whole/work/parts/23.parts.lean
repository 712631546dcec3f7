/-! parts that wait: the first of all that wait is found, the rest of its part splits -/
def gtD (T : List (List Int)) (i : Int) : List Int := T.getD i.toNat []
theorem gtD_mem {T : List (List Int)} {i : Int} (h0 : 0 ≤ i) (h : i < T.length) : gtD T i ∈ T := by
  unfold gtD
  rw [List.getD_eq_getElem?_getD, List.getElem?_eq_getElem (by omega)]
  exact List.getElem_mem _
theorem gtD_app {T : List (List Int)} {x : List Int} {i : Int} (h0 : 0 ≤ i) : gtD (T ++ [x]) i = if i < T.length then gtD T i else if i = T.length then x else [] := by
  unfold gtD
  rw [List.getD_eq_getElem?_getD, List.getElem?_append]
  by_cases h : i < T.length
  · rw [if_pos h, if_pos (by omega), ← List.getD_eq_getElem?_getD]
  · rw [if_neg h, if_neg (by omega)]
    by_cases h2 : i = T.length
    · rw [if_pos h2, show i.toNat - T.length = 0 by omega]
      rfl
    · rw [if_neg h2, show i.toNat - T.length = (i.toNat - T.length - 1) + 1 by omega]
      rfl
theorem lxl_tri : ∀ {x y : List Int}, x.length = y.length → x = y ∨ lxl x y ∨ lxl y x := by
  intro x
  induction x with
  | nil =>
    intro y h
    cases y with
    | nil => exact Or.inl rfl
    | cons b y => simp at h
  | cons a x ih =>
    intro y h
    cases y with
    | nil => simp at h
    | cons b y =>
      simp only [List.length_cons, Nat.add_right_cancel_iff] at h
      by_cases h1 : a < b
      · exact Or.inr (Or.inl (Or.inl h1))
      · by_cases h2 : b < a
        · exact Or.inr (Or.inr (Or.inl h2))
        · have e : a = b := by omega
          rcases ih h with g | g | g
          · left; rw [e, g]
          · right; left; exact Or.inr ⟨e, g⟩
          · right; right; exact Or.inr ⟨e.symm, g⟩
theorem ltk_tri {f : List Int → Int} {x y : List Int} (h : x.length = y.length) : x = y ∨ ltk f x y ∨ ltk f y x := by
  by_cases h1 : f x < f y
  · exact Or.inr (Or.inl (Or.inl h1))
  · by_cases h2 : f y < f x
    · exact Or.inr (Or.inr (Or.inl h2))
    · have e : f x = f y := by omega
      rcases lxl_tri h with g | g | g
      · exact Or.inl g
      · exact Or.inr (Or.inl (Or.inr ⟨e, g⟩))
      · exact Or.inr (Or.inr (Or.inr ⟨e.symm, g⟩))
/-- F is found; part i of n waits: X i is its first one, P i says who is in it; R: who is in none yet -/
def wI (f : List Int → Int) (L F : List (List Int)) (n : Int) (X : Int → List Int) (P : Int → List Int → Prop) (R : List Int → Prop) : Prop :=
  F.Pairwise (ltk f) ∧ (∀ x ∈ F, x ∈ L) ∧
  (∀ i : Int, 0 ≤ i → i < n → X i ∈ L ∧ P i (X i) ∧ ∀ l ∈ L, P i l → l = X i ∨ ltk f (X i) l) ∧
  (∀ i j : Int, 0 ≤ i → i < n → 0 ≤ j → j < n → i ≠ j → ∀ l ∈ L, P i l → ¬ P j l) ∧
  (∀ l ∈ L, l ∉ F → R l ∨ ∃ i : Int, 0 ≤ i ∧ i < n ∧ P i l) ∧
  (∀ y ∈ F, ∀ i : Int, 0 ≤ i → i < n → ltk f y (X i)) ∧
  (∀ l ∈ L, R l → (∀ y ∈ F, ltk f y l) ∧ ∀ i : Int, 0 ≤ i → i < n → ¬ P i l)
theorem wI_0 (f : List Int → Int) (L : List (List Int)) (X : Int → List Int) (P : Int → List Int → Prop) : wI f L [] 0 X P (fun _ => True) :=
  ⟨List.Pairwise.nil, fun _ h => absurd h List.not_mem_nil, fun i h1 h2 => absurd h2 (by omega), fun i j h1 h2 => absurd h2 (by omega), fun _ _ _ => Or.inl trivial, fun _ h => absurd h List.not_mem_nil, fun _ _ _ => ⟨fun _ h => absurd h List.not_mem_nil, fun i h1 h2 => absurd h2 (by omega)⟩⟩
theorem wI_mono {f : List Int → Int} {L F : List (List Int)} {n : Int} {X X' : Int → List Int} {P P' : Int → List Int → Prop} {R R' : List Int → Prop} (h : wI f L F n X P R) (hR : ∀ l ∈ L, R' l ↔ R l) (hX : ∀ i : Int, 0 ≤ i → i < n → X' i = X i) (hP : ∀ i : Int, 0 ≤ i → i < n → ∀ l ∈ L, (P' i l ↔ P i l)) : wI f L F n X' P' R' := by
  obtain ⟨a1, a2, a3, a4, a5, a6, a7⟩ := h
  refine ⟨a1, a2, fun i h1 h2 => ?_, fun i j h1 h2 h3 h4 h5 l hl g1 g2 => ?_, fun l hl hn => ?_, fun y hy i h1 h2 => ?_, fun l hl hr => ?_⟩
  · obtain ⟨b1, b2, b3⟩ := a3 i h1 h2
    rw [hX i h1 h2]
    exact ⟨b1, (hP i h1 h2 _ b1).mpr b2, fun l hl g => b3 l hl ((hP i h1 h2 l hl).mp g)⟩
  · exact a4 i j h1 h2 h3 h4 h5 l hl ((hP i h1 h2 l hl).mp g1) ((hP j h3 h4 l hl).mp g2)
  · rcases a5 l hl hn with g | ⟨i, h1, h2, g⟩
    · exact Or.inl ((hR l hl).mpr g)
    · exact Or.inr ⟨i, h1, h2, (hP i h1 h2 l hl).mpr g⟩
  · rw [hX i h1 h2]; exact a6 y hy i h1 h2
  · obtain ⟨b1, b2⟩ := a7 l hl ((hR l hl).mp hr)
    exact ⟨b1, fun i h1 h2 g => b2 i h1 h2 ((hP i h1 h2 l hl).mp g)⟩
theorem wI_none {f : List Int → Int} {L F : List (List Int)} {n : Int} {X X' : Int → List Int} {P P' : Int → List Int → Prop} {R R' D : List Int → Prop} (h : wI f L F n X P R) (hD : ∀ l ∈ L, ¬ D l) (hR' : ∀ l ∈ L, (R' l ↔ (R l ∧ ¬ D l))) (hX : ∀ i : Int, 0 ≤ i → i < n → X' i = X i) (hP : ∀ i : Int, 0 ≤ i → i < n → ∀ l ∈ L, (P' i l ↔ P i l)) : wI f L F n X' P' R' :=
  wI_mono h (fun l hl => by rw [hR' l hl]; exact ⟨fun g => g.1, fun g => ⟨g, hD l hl⟩⟩) hX hP
theorem wI_add {f : List Int → Int} {L F : List (List Int)} {n : Int} {X X' : Int → List Int} {P P' : Int → List Int → Prop} {R R' D : List Int → Prop} {x : List Int} (h : wI f L F n X P R) (hn : 0 ≤ n) (hx : x ∈ L) (hDx : D x) (hmin : ∀ l ∈ L, D l → l = x ∨ ltk f x l) (hDR : ∀ l ∈ L, D l → R l) (hR' : ∀ l ∈ L, (R' l ↔ (R l ∧ ¬ D l))) (hX : ∀ i : Int, 0 ≤ i → i < n → X' i = X i) (hXn : X' n = x) (hP : ∀ i : Int, 0 ≤ i → i < n → ∀ l ∈ L, (P' i l ↔ P i l)) (hPn : ∀ l ∈ L, (P' n l ↔ D l)) : wI f L F (n + 1) X' P' R' := by
  obtain ⟨a1, a2, a3, a4, a5, a6, a7⟩ := h
  refine ⟨a1, a2, fun i h1 h2 => ?_, fun i j h1 h2 h3 h4 h5 l hl g1 g2 => ?_, fun l hl hn2 => ?_, fun y hy i h1 h2 => ?_, fun l hl hr => ?_⟩
  · by_cases hi : i = n
    · rw [hi, hXn]
      exact ⟨hx, (hPn x hx).mpr hDx, fun l hl g => hmin l hl ((hPn l hl).mp g)⟩
    · have h2' : i < n := by omega
      obtain ⟨b1, b2, b3⟩ := a3 i h1 h2'
      rw [hX i h1 h2']
      exact ⟨b1, (hP i h1 h2' _ b1).mpr b2, fun l hl g => b3 l hl ((hP i h1 h2' l hl).mp g)⟩
  · by_cases hi : i = n
    · subst hi
      have h4' : j < i := by omega
      exact (a7 l hl (hDR l hl ((hPn l hl).mp g1))).2 j h3 h4' ((hP j h3 h4' l hl).mp g2)
    · have h2' : i < n := by omega
      by_cases hj : j = n
      · subst hj
        exact (a7 l hl (hDR l hl ((hPn l hl).mp g2))).2 i h1 h2' ((hP i h1 h2' l hl).mp g1)
      · have h4' : j < n := by omega
        exact a4 i j h1 h2' h3 h4' h5 l hl ((hP i h1 h2' l hl).mp g1) ((hP j h3 h4' l hl).mp g2)
  · rcases a5 l hl hn2 with g | ⟨i, h1, h2, g⟩
    · by_cases hd : D l
      · exact Or.inr ⟨n, hn, by omega, (hPn l hl).mpr hd⟩
      · exact Or.inl ((hR' l hl).mpr ⟨g, hd⟩)
    · exact Or.inr ⟨i, h1, by omega, (hP i h1 h2 l hl).mpr g⟩
  · by_cases hi : i = n
    · rw [hi, hXn]
      exact (a7 x hx (hDR x hx hDx)).1 y hy
    · rw [hX i h1 (by omega)]
      exact a6 y hy i h1 (by omega)
  · obtain ⟨r1, r2⟩ := (hR' l hl).mp hr
    obtain ⟨b1, b2⟩ := a7 l hl r1
    refine ⟨b1, fun i h1 h2 g => ?_⟩
    by_cases hi : i = n
    · rw [hi] at g
      exact r2 ((hPn l hl).mp g)
    · exact b2 i h1 (by omega) ((hP i h1 (by omega) l hl).mp g)
theorem wI_take {f : List Int → Int} {L F : List (List Int)} {n p : Int} {X X' : Int → List Int} {P P' : Int → List Int → Prop} {R : List Int → Prop} (h : wI f L F n X P R) (hR : ∀ l ∈ L, ¬ R l) (hlen : ∀ l ∈ L, l.length = 8) (hp : 0 ≤ p ∧ p < n) (hmin : ∀ i : Int, 0 ≤ i → i < n → ¬ ltk f (X i) (X p))
    (hX' : ∀ i : Int, 0 ≤ i → i < n - 1 → X' i = if i = p then X (n - 1) else X i) (hP' : ∀ i : Int, 0 ≤ i → i < n - 1 → ∀ l ∈ L, (P' i l ↔ if i = p then P (n - 1) l else P i l)) : wI f L (F ++ [X p]) (n - 1) X' P' (fun l => P p l ∧ l ≠ X p) := by
  obtain ⟨a1, a2, a3, a4, a5, a6, a7⟩ := h
  obtain ⟨p1, p2, p3⟩ := a3 p hp.1 hp.2
  -- where part i stood
  have ex : ∀ i : Int, 0 ≤ i → i < n - 1 → ∃ s : Int, 0 ≤ s ∧ s < n ∧ s ≠ p ∧ X' i = X s ∧ (∀ l ∈ L, (P' i l ↔ P s l)) ∧ (i = p → s = n - 1) ∧ (i ≠ p → s = i) := by
    intro i h1 h2
    by_cases hi : i = p
    · refine ⟨n - 1, by omega, by omega, by omega, by rw [hX' i h1 h2, if_pos hi], fun l hl => by rw [hP' i h1 h2 l hl, if_pos hi], fun _ => rfl, fun g => absurd hi g⟩
    · refine ⟨i, h1, by omega, hi, by rw [hX' i h1 h2, if_neg hi], fun l hl => by rw [hP' i h1 h2 l hl, if_neg hi], fun g => absurd g hi, fun _ => rfl⟩
  -- the found one is ahead of all that wait
  have ah : ∀ s : Int, 0 ≤ s → s < n → s ≠ p → ltk f (X p) (X s) := by
    intro s h1 h2 h3
    obtain ⟨s1, s2, s3⟩ := a3 s h1 h2
    rcases ltk_tri (f := f) (show (X p).length = (X s).length by rw [hlen _ p1, hlen _ s1]) with g | g | g
    · rw [← g] at s2
      exact absurd s2 (a4 p s hp.1 hp.2 h1 h2 (fun e => h3 e.symm) _ p1 p2)
    · exact g
    · exact absurd g (hmin s h1 h2)
  refine ⟨?_, fun y hy => ?_, fun i h1 h2 => ?_, fun i j h1 h2 h3 h4 h5 l hl g1 g2 => ?_, fun l hl hn2 => ?_, fun y hy i h1 h2 => ?_, fun l hl hr => ⟨fun y hy => ?_, fun i h1 h2 g => ?_⟩⟩
  · rw [List.pairwise_append]
    refine ⟨a1, List.pairwise_singleton _ _, fun y hy z hz => ?_⟩
    rw [List.mem_singleton] at hz
    rw [hz]
    exact a6 y hy p hp.1 hp.2
  · rcases List.mem_append.mp hy with g | g
    · exact a2 y g
    · rw [List.mem_singleton] at g
      rw [g]; exact p1
  · obtain ⟨s, s1, s2, s3, s4, s5, _⟩ := ex i h1 h2
    obtain ⟨b1, b2, b3⟩ := a3 s s1 s2
    rw [s4]
    exact ⟨b1, (s5 _ b1).mpr b2, fun l hl g => b3 l hl ((s5 l hl).mp g)⟩
  · obtain ⟨s, s1, s2, s3, s4, s5, s6, s7⟩ := ex i h1 h2
    obtain ⟨t, t1, t2, t3, t4, t5, t6, t7⟩ := ex j h3 h4
    refine a4 s t s1 s2 t1 t2 ?_ l hl ((s5 l hl).mp g1) ((t5 l hl).mp g2)
    by_cases hi : i = p
    · have := s6 hi
      have := t7 (by omega)
      omega
    · by_cases hj : j = p
      · have := t6 hj
        have := s7 hi
        omega
      · have := s7 hi
        have := t7 hj
        omega
  · have hnF : l ∉ F := fun g => hn2 (List.mem_append.mpr (Or.inl g))
    have hnx : l ≠ X p := fun g => hn2 (List.mem_append.mpr (Or.inr (List.mem_singleton.mpr g)))
    rcases a5 l hl hnF with g | ⟨i, h1, h2, g⟩
    · exact absurd g (hR l hl)
    · by_cases hi : i = p
      · rw [hi] at g
        exact Or.inl ⟨g, hnx⟩
      · by_cases hl2 : i = n - 1
        · refine Or.inr ⟨p, hp.1, by omega, ?_⟩
          rw [hP' p hp.1 (by omega) l hl, if_pos rfl, ← hl2]
          exact g
        · refine Or.inr ⟨i, h1, by omega, ?_⟩
          rw [hP' i h1 (by omega) l hl, if_neg hi]
          exact g
  · obtain ⟨s, s1, s2, s3, s4, s5, _⟩ := ex i h1 h2
    rw [s4]
    rcases List.mem_append.mp hy with g | g
    · exact a6 y g s s1 s2
    · rw [List.mem_singleton] at g
      rw [g]
      exact ah s s1 s2 s3
  · have hpl : ltk f (X p) l := (p3 l hl hr.1).resolve_left hr.2
    rcases List.mem_append.mp hy with g | g
    · exact ltk_tr (a6 y g p hp.1 hp.2) hpl
    · rw [List.mem_singleton] at g
      rw [g]; exact hpl
  · obtain ⟨s, s1, s2, s3, s4, s5, _⟩ := ex i h1 h2
    exact a4 p s hp.1 hp.2 s1 s2 (fun e => s3 e.symm) l hl hr.1 ((s5 l hl).mp g)
theorem wI_top {f : List Int → Int} {L F : List (List Int)} {n : Int} {X : Int → List Int} {P : Int → List Int → Prop} {R : List Int → Prop} (h : wI f L F n X P R) (hR : ∀ l ∈ L, ¬ R l) (hlen : F.length ≤ 12) (hend : F.length = 12 ∨ n ≤ 0) : Top f L F := by
  obtain ⟨a1, a2, a3, a4, a5, a6, a7⟩ := h
  refine ⟨a1, a2, hlen, fun x hx hn => ?_⟩
  rcases a5 x hx hn with g | ⟨i, h1, h2, g⟩
  · exact absurd g (hR x hx)
  · refine ⟨hend.resolve_right (by omega), fun y hy => ?_⟩
    rcases (a3 i h1 h2).2.2 x hx g with e | e
    · rw [e]; exact a6 y hy i h1 h2
    · exact ltk_tr (a6 y hy i h1 h2) e
/-- eight places of a row as a list -/
def ls8 (g : Int → Int) : List Int := [g 0, g 1, g 2, g 3, g 4, g 5, g 6, g 7]
theorem ls8_len (g : Int → Int) : (ls8 g).length = 8 := rfl
theorem ls8_get {g : Int → Int} {c : Int} (h0 : 0 ≤ c) (h8 : c < 8) : (ls8 g).getD c.toNat (-1) = g c := by
  have hc : c = 0 ∨ c = 1 ∨ c = 2 ∨ c = 3 ∨ c = 4 ∨ c = 5 ∨ c = 6 ∨ c = 7 := by omega
  rcases hc with rfl | rfl | rfl | rfl | rfl | rfl | rfl | rfl <;> rfl
theorem ls_ext {x y : List Int} (hx : x.length = 8) (hy : y.length = 8) (h : ∀ c : Int, 0 ≤ c → c < 8 → x.getD c.toNat (-1) = y.getD c.toNat (-1)) : x = y := by
  apply List.ext_getElem (by omega)
  intro n h1 h2
  have := h n (by omega) (by omega)
  rw [Int.toNat_natCast, List.getD_eq_getElem?_getD, List.getElem?_eq_getElem h1, List.getD_eq_getElem?_getD, List.getElem?_eq_getElem h2] at this
  exact this
theorem ls8_eq {g : Int → Int} {l : List Int} (hl : l.length = 8) (h : ∀ c : Int, 0 ≤ c → c < 8 → g c = l.getD c.toNat (-1)) : ls8 g = l :=
  ls_ext (ls8_len g) hl (fun c h1 h2 => by rw [ls8_get h1 h2]; exact h c h1 h2)
theorem ls8_cg {g g' : Int → Int} (h : ∀ c : Int, 0 ≤ c → c < 8 → g c = g' c) : ls8 g = ls8 g' :=
  ls8_eq (ls8_len g') (fun c h1 h2 => by rw [ls8_get h1 h2]; exact h c h1 h2)
theorem ls8_drop {g : Int → Int} {c : Nat} (h : c < 8) : (ls8 g).drop c = g c :: (ls8 g).drop (c + 1) := by
  have hc : c = 0 ∨ c = 1 ∨ c = 2 ∨ c = 3 ∨ c = 4 ∨ c = 5 ∨ c = 6 ∨ c = 7 := by omega
  rcases hc with rfl | rfl | rfl | rfl | rfl | rfl | rfl | rfl <;> rfl
/-- what stands in the places of a matching -/
theorem mts_val {o : Int → Int → Bool} {C : Int → Bool} (k : Nat) (hk : k ≤ 8) : ∀ s l, l ∈ mts o C k s → ∀ x : Nat, x < k → (C (8 - (k : Int) + x) = true → 0 ≤ l.getD x (-1) ∧ l.getD x (-1) < 8) ∧ (C (8 - (k : Int) + x) = false → l.getD x (-1) = -1) := by
  induction k with
  | zero => intro s l _ x hx; exact absurd hx (Nat.not_lt_zero _)
  | succ k ih =>
    intro s l hl x hx
    rw [mts_s] at hl
    by_cases hC : C (7 - (k : Int)) = true
    · rw [if_pos hC] at hl
      obtain ⟨j, hj, hj2⟩ := fm_mem.mp hl
      split at hj2
      · obtain ⟨l', h1, rfl⟩ := List.mem_map.mp hj2
        cases x with
        | zero =>
          rw [show 8 - ((k + 1 : Nat) : Int) + ((0 : Nat) : Int) = 7 - (k : Int) by omega]
          refine ⟨fun _ => ?_, fun g => by rw [hC] at g; cases g⟩
          show 0 ≤ (j : Int) ∧ (j : Int) < 8
          omega
        | succ x =>
          have := ih (by omega) _ _ h1 x (by omega)
          rw [show 8 - ((k + 1 : Nat) : Int) + ((x + 1 : Nat) : Int) = 8 - (k : Int) + x by omega]
          exact this
      · cases hj2
    · rw [if_neg hC] at hl
      obtain ⟨l', h1, rfl⟩ := List.mem_map.mp hl
      cases x with
      | zero =>
        rw [show 8 - ((k + 1 : Nat) : Int) + ((0 : Nat) : Int) = 7 - (k : Int) by omega]
        exact ⟨fun g => absurd g hC, fun _ => rfl⟩
      | succ x =>
        have := ih (by omega) _ _ h1 x (by omega)
        rw [show 8 - ((k + 1 : Nat) : Int) + ((x + 1 : Nat) : Int) = 8 - (k : Int) + x by omega]
        exact this
theorem mts_in {o : Int → Int → Bool} {C : Int → Bool} {l : List Int} (hl : l ∈ mts o C 8 0) {c : Int} (c1 : 0 ≤ c) (c2 : c < 8) (hC : C c = true) : 0 ≤ l.getD c.toNat (-1) ∧ l.getD c.toNat (-1) < 8 := by
  refine (mts_val 8 (Nat.le_refl 8) 0 l hl c.toNat (by omega)).1 ?_
  rw [show 8 - ((8 : Nat) : Int) + (c.toNat : Int) = c by omega]
  exact hC
theorem mts_out {o : Int → Int → Bool} {C : Int → Bool} {l : List Int} (hl : l ∈ mts o C 8 0) {c : Int} (c1 : 0 ≤ c) (c2 : c < 8) (hC : ¬ C c = true) : l.getD c.toNat (-1) = -1 := by
  refine (mts_val 8 (Nat.le_refl 8) 0 l hl c.toNat (by omega)).2 ?_
  rw [show 8 - ((8 : Nat) : Int) + (c.toNat : Int) = c by omega]
  simpa using hC
theorem tot_rep (b : Int → Int → Int) (k e : Nat) (l : List Int) : tot b (k + e) (List.replicate e (-1) ++ l) = tot b k l := by
  induction e with
  | zero => rfl
  | succ e ih =>
    rw [show k + (e + 1) = (k + e) + 1 by omega]
    show (if (-1 : Int) = -1 then 0 else b (-1) (7 - ((k + e : Nat) : Int))) + tot b (k + e) (List.replicate e (-1) ++ l) = _
    rw [if_pos rfl, ih, Int.zero_add]
theorem mts_rep {o : Int → Int → Bool} {C : Int → Bool} {s : Int} (k e : Nat) (hC : ∀ c : Int, 8 - ((k : Int) + e) ≤ c → c < 8 - k → C c = false) : mts o C (k + e) s = (mts o C k s).map (fun l => List.replicate e (-1) ++ l) := by
  induction e with
  | zero => simp
  | succ e ih =>
    rw [show k + (e + 1) = (k + e) + 1 by omega, mts_s, if_neg (by rw [hC _ (by omega) (by omega)]; simp), ih (fun c g1 g2 => hC c (by omega) g2), List.map_map]
    rfl

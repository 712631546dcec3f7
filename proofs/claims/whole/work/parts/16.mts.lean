/-! matchings as lists: mts all FULL ones of the last k cases with the judges s taken, in ORDER; bst the best ones -/
def tot (b : Int → Int → Int) : Nat → List Int → Int
  | k + 1, j :: l => (if j = -1 then 0 else b j (7 - k)) + tot b k l
  | _, _ => 0
def fm {α : Type} (f : Int → List α) : Nat → List α
  | 0 => []
  | n + 1 => fm f n ++ f n
def fmr {α : Type} (f : Int → List α) : Nat → Int → List α
  | 0, _ => []
  | r + 1, j => f j ++ fmr f r (j + 1)
theorem fmr_fm {α : Type} (f : Int → List α) (r : Nat) : ∀ (n : Nat) (j : Int), j = n → fm f n ++ fmr f r j = fm f (n + r) := by
  induction r with
  | zero => intro n j _; simp [fmr]
  | succ r ih =>
    intro n j hj
    rw [show n + (r + 1) = (n + 1) + r by omega, ← ih (n + 1) (j + 1) (by omega)]
    show fm f n ++ (f j ++ fmr f r (j + 1)) = (fm f n ++ f n) ++ fmr f r (j + 1)
    rw [List.append_assoc, hj]
theorem fmr_8 {α : Type} (f : Int → List α) : fm f 8 = fmr f 8 0 := by
  have := fmr_fm f 8 0 0 rfl
  rw [show (0 : Nat) + 8 = 8 from rfl] at this
  rw [← this]
  rfl
theorem fm_mem {α : Type} {f : Int → List α} {n : Nat} {x : α} : x ∈ fm f n ↔ ∃ j : Nat, j < n ∧ x ∈ f j := by
  induction n with
  | zero => simp [fm]
  | succ n ih =>
    unfold fm
    rw [List.mem_append, ih]
    constructor
    · rintro (⟨j, h1, h2⟩ | h)
      · exact ⟨j, by omega, h2⟩
      · exact ⟨n, by omega, h⟩
    · rintro ⟨j, h1, h2⟩
      by_cases h : j = n
      · subst h; exact Or.inr h2
      · exact Or.inl ⟨j, by omega, h2⟩
theorem fm_congr {α : Type} {f g : Int → List α} {n : Nat} (h : ∀ j : Nat, j < n → f j = g j) : fm f n = fm g n := by
  induction n with
  | zero => rfl
  | succ n ih =>
    unfold fm
    rw [ih (fun j hj => h j (by omega)), h n (by omega)]
theorem fm_filter {α : Type} (P : α → Bool) (f : Int → List α) (n : Nat) : (fm f n).filter P = fm (fun j => (f j).filter P) n := by
  induction n with
  | zero => rfl
  | succ n ih =>
    unfold fm
    rw [List.filter_append, ih]
def mts (o : Int → Int → Bool) (C : Int → Bool) : Nat → Int → List (List Int)
  | 0, _ => [[]]
  | k + 1, s => if C (7 - k) = true then fm (fun j => if bt s j = false ∧ o j (7 - k) = true then (mts o C k (iOr s (iShl 1 j))).map (fun l => j :: l) else []) 8 else (mts o C k s).map (fun l => (-1) :: l)
theorem mts_s (o : Int → Int → Bool) (C : Int → Bool) (k : Nat) (s : Int) : mts o C (k + 1) s = if C (7 - k) = true then fm (fun j => if bt s j = false ∧ o j (7 - k) = true then (mts o C k (iOr s (iShl 1 j))).map (fun l => j :: l) else []) 8 else (mts o C k s).map (fun l => (-1) :: l) := rfl
/-- a least value and how often it comes -/
def lcF (f : List Int → Int) (L : List (List Int)) (x : Int × Int) : Prop := x.1 < dpF ∧ (∀ l ∈ L, x.1 ≤ f l) ∧ 0 < x.2 ∧ x.2 = ((L.filter (fun l => decide (f l = x.1))).length : Int)
def lc (f : List Int → Int) (L : List (List Int)) (x : Int × Int) : Prop := (L = [] ∧ x = (dpF, 0)) ∨ lcF f L x
theorem flt_nil {α : Type} {P : α → Bool} {L : List α} (h : ∀ l ∈ L, P l = false) : L.filter P = [] := by
  rw [List.filter_eq_nil_iff]
  intro l hl
  rw [h l hl]
  simp
theorem lc_app {f : List Int → Int} {L L' : List (List Int)} {x y : Int × Int} (hx : lc f L x) (hy : lcF f L' y) : lc f (L ++ L') (if y.1 < x.1 then y else if y.1 = x.1 then (x.1, x.2 + y.2) else x) := by
  obtain ⟨y1, y2, y3, y4⟩ := hy
  rcases hx with ⟨rfl, rfl⟩ | ⟨x1, x2, x3, x4⟩
  · rw [if_pos y1]
    exact Or.inr ⟨y1, y2, y3, y4⟩
  · right
    by_cases h : y.1 < x.1
    · rw [if_pos h]
      refine ⟨y1, ?_, y3, ?_⟩
      · intro l hl
        rcases List.mem_append.mp hl with h2 | h2
        · have := x2 l h2; omega
        · exact y2 l h2
      · rw [List.filter_append, List.length_append, flt_nil (L := L)]
        · simpa using y4
        · intro l hl
          have := x2 l hl
          simp; omega
    · rw [if_neg h]
      by_cases h3 : y.1 = x.1
      · rw [if_pos h3]
        refine ⟨x1, ?_, by dsimp only; omega, ?_⟩
        · intro l hl
          rcases List.mem_append.mp hl with h2 | h2
          · exact x2 l h2
          · have := y2 l h2; dsimp only; omega
        · dsimp only
          rw [List.filter_append, List.length_append, x4, y4, h3]
          simp
      · rw [if_neg h3]
        refine ⟨x1, ?_, x3, ?_⟩
        · intro l hl
          rcases List.mem_append.mp hl with h2 | h2
          · exact x2 l h2
          · have := y2 l h2; omega
        · rw [List.filter_append, List.length_append, flt_nil (L := L')]
          · simpa using x4
          · intro l hl
            have := y2 l hl
            simp; omega
theorem lc_map {b : Int → Int → Int} {k : Nat} {L : List (List Int)} {x : Int × Int} {j v : Int} (hv : v = if j = -1 then 0 else b j (7 - k)) (hx : lcF (tot b k) L x) (hF : v + x.1 < dpF) : lcF (tot b (k + 1)) (L.map (fun l => j :: l)) (v + x.1, x.2) := by
  obtain ⟨x1, x2, x3, x4⟩ := hx
  refine ⟨hF, ?_, x3, ?_⟩
  · intro l hl
    obtain ⟨l', h1, rfl⟩ := List.mem_map.mp hl
    have := x2 l' h1
    show v + x.1 ≤ (if j = -1 then 0 else b j (7 - k)) + tot b k l'
    rw [← hv]; omega
  · dsimp only
    rw [List.filter_map, List.length_map, x4]
    congr 2
    apply List.filter_congr
    intro l _
    show decide (tot b k l = x.1) = decide ((if j = -1 then 0 else b j (7 - k)) + tot b k l = v + x.1)
    rw [← hv]
    congr 1
    apply propext
    omega
theorem lc_mts {o : Int → Int → Bool} {b : Int → Int → Int} {C : Int → Bool} (hB : dpB o b) (k : Nat) (hk : k ≤ 8) : ∀ s, mk8 s → lc (tot b k) (mts o C k s) (dpt 0 o b C k s) := by
  induction k with
  | zero =>
    intro s _
    right
    refine ⟨by show (0 : Int) < dpF; unfold dpF; omega, ?_, by show (0 : Int) < 1; omega, by rfl⟩
    intro l hl
    simp [mts] at hl
    subst hl
    exact Int.le_refl 0
  | succ k ih =>
    intro s hs
    have ih := ih (by omega)
    rw [mts_s, dpt_s]
    by_cases hC : C (7 - k) = true
    · rw [if_pos hC, if_pos hC]
      have key : ∀ n : Nat, n ≤ 8 → lc (tot b (k + 1)) (fm (fun j => if bt s j = false ∧ o j (7 - k) = true then (mts o C k (iOr s (iShl 1 j))).map (fun l => j :: l) else []) n) (dpf 0 o b (dpt 0 o b C k) (7 - k) s n) := by
        intro n
        induction n with
        | zero => intro _; exact Or.inl ⟨rfl, rfl⟩
        | succ n ihn =>
          intro hn
          have ihn := ihn (by omega)
          have hs' := mk_or1 hs (k := n) ⟨by omega, by omega⟩
          have hl := ih _ hs'
          have hr := dpt_r (h := 0) (C := C) hB k (by omega) _ hs'
          rw [dpf_s]
          unfold fm
          by_cases hg : bt s n = false ∧ o n (7 - k) = true
          · rw [if_pos hg]
            have hb := hB n (7 - k) (by omega) (by omega) (by omega) (by omega) hg.2
            rcases hl with ⟨l1, l2⟩ | hl
            · rw [if_neg (by rintro ⟨_, _, g⟩; rw [l2] at g; exact g rfl), l1]
              simpa using ihn
            · have hne : (dpt 0 o b C k (iOr s (iShl 1 n))).1 ≠ dpF := by have := hl.1; omega
              rw [if_pos ⟨hg.1, hg.2, hne⟩]
              have hF : b n (7 - k) + (dpt 0 o b C k (iOr s (iShl 1 n))).1 < dpF := by
                rcases hr.1 with h | h
                · unfold dpF; omega
                · exact absurd h hne
              have h2 := lc_map (b := b) (k := k) (j := n) (v := b n (7 - k)) (by rw [if_neg (by omega)]) hl hF
              exact lc_app ihn h2
          · rw [if_neg hg, if_neg (by rintro ⟨g1, g2, _⟩; exact hg ⟨g1, g2⟩)]
            simpa using ihn
      exact key 8 (Nat.le_refl _)
    · rw [if_neg hC, if_neg hC]
      rcases ih s hs with ⟨h1, h2⟩ | h
      · left; rw [h1, h2]; exact ⟨rfl, rfl⟩
      · right
        have := lc_map (b := b) (k := k) (j := -1) (v := 0) (by rw [if_pos rfl]) h (by have := h.1; omega)
        simpa using this
/-- the best ones -/
def bst (o : Int → Int → Bool) (b : Int → Int → Int) (C : Int → Bool) (k : Nat) (s : Int) : List (List Int) := (mts o C k s).filter (fun l => decide (tot b k l = (dpt 0 o b C k s).1))
/-- a best one goes on with judge j -/
def ldg (o : Int → Int → Bool) (b : Int → Int → Int) (C : Int → Bool) (k : Nat) (s j : Int) : Bool := !bt s j && o j (7 - k) && decide ((dpt 0 o b C k (iOr s (iShl 1 j))).1 ≠ dpF) && decide (b j (7 - k) + (dpt 0 o b C k (iOr s (iShl 1 j))).1 = (dpt 0 o b C (k + 1) s).1)
theorem bst_len {o : Int → Int → Bool} {b : Int → Int → Int} {C : Int → Bool} (hB : dpB o b) {k : Nat} (hk : k ≤ 8) {s : Int} (hs : mk8 s) : (dpt 0 o b C k s).2 = ((bst o b C k s).length : Int) := by
  rcases lc_mts (C := C) hB k hk s hs with ⟨h1, h2⟩ | h
  · rw [h2]; unfold bst; rw [h1]; rfl
  · exact h.2.2.2
theorem bst_0 (o : Int → Int → Bool) (b : Int → Int → Int) (C : Int → Bool) (s : Int) : bst o b C 0 s = [[]] := rfl
theorem bst_out {o : Int → Int → Bool} {b : Int → Int → Int} {C : Int → Bool} {k : Nat} {s : Int} (hC : ¬ C (7 - k) = true) : bst o b C (k + 1) s = (bst o b C k s).map (fun l => (-1) :: l) := by
  unfold bst
  rw [mts_s, dpt_s, if_neg hC, if_neg hC, List.filter_map]
  congr 1
  apply List.filter_congr
  intro l _
  show decide ((if (-1 : Int) = -1 then 0 else b (-1) (7 - k)) + tot b k l = _) = _
  rw [if_pos rfl, Int.zero_add]
theorem bst_in {o : Int → Int → Bool} {b : Int → Int → Int} {C : Int → Bool} (hB : dpB o b) {k : Nat} (hk : k ≤ 7) {s : Int} (hs : mk8 s) (hC : C (7 - k) = true) : bst o b C (k + 1) s = fm (fun j => if ldg o b C k s j = true then (bst o b C k (iOr s (iShl 1 j))).map (fun l => j :: l) else []) 8 := by
  have hall := lc_mts (C := C) hB (k + 1) (by omega) s hs
  have e0 := mts_s o C k s
  rw [if_pos hC] at e0
  unfold bst
  rw [e0, fm_filter]
  apply fm_congr
  intro j hj
  have hs' := mk_or1 hs (k := j) ⟨by omega, by omega⟩
  by_cases hg : bt s j = false ∧ o j (7 - k) = true
  · rw [if_pos hg, List.filter_map]
    have hl := lc_mts (C := C) hB k (by omega) _ hs'
    by_cases hd : ldg o b C k s j = true
    · rw [if_pos hd]
      unfold ldg at hd
      simp only [Bool.and_eq_true, decide_eq_true_eq] at hd
      congr 1
      apply List.filter_congr
      intro l _
      show decide ((if (j : Int) = -1 then 0 else b j (7 - k)) + tot b k l = _) = _
      rw [if_neg (by omega), ← hd.2]
      congr 1
      apply propext
      omega
    · rw [if_neg hd]
      rcases hl with ⟨h1, _⟩ | hl
      · rw [h1]; rfl
      · rw [List.map_eq_nil_iff]
        apply flt_nil
        intro l hm
        show decide ((if (j : Int) = -1 then 0 else b j (7 - k)) + tot b k l = _) = false
        rw [if_neg (by omega), decide_eq_false_iff_not]
        intro hq
        apply hd
        unfold ldg
        rw [hg.1, hg.2]
        have h1 := hl.2.1 l hm
        have h2 := hl.1
        have h3 : (dpt 0 o b C (k + 1) s).1 ≤ b j (7 - k) + (dpt 0 o b C k (iOr s (iShl 1 j))).1 := by
          rcases hall with ⟨h4, _⟩ | hall
          · exfalso
            have : (j : Int) :: l ∈ mts o C (k + 1) s := by
              rw [e0, fm_mem]
              refine ⟨j, hj, ?_⟩
              rw [if_pos hg]
              exact List.mem_map.mpr ⟨l, hm, rfl⟩
            rw [h4] at this
            cases this
          · have hpos := hl.2.2.1
            rw [hl.2.2.2] at hpos
            obtain ⟨l0, h0⟩ := List.exists_mem_of_length_pos (show 0 < (List.filter (fun l => decide (tot b k l = (dpt 0 o b C k (iOr s (iShl 1 ↑j))).1)) (mts o C k (iOr s (iShl 1 ↑j)))).length by omega)
            rw [List.mem_filter, decide_eq_true_eq] at h0
            have : (j : Int) :: l0 ∈ mts o C (k + 1) s := by
              rw [e0, fm_mem]
              refine ⟨j, hj, ?_⟩
              rw [if_pos hg]
              exact List.mem_map.mpr ⟨l0, h0.1, rfl⟩
            have h5 := hall.2.1 _ this
            have h6 : tot b (k + 1) ((j : Int) :: l0) = (if (j : Int) = -1 then 0 else b j (7 - k)) + tot b k l0 := rfl
            rw [h6, if_neg (by omega), h0.2] at h5
            exact h5
        simp only [Bool.not_false, Bool.and_true, Bool.true_and, Bool.and_eq_true, decide_eq_true_eq]
        exact ⟨by omega, by omega⟩
  · rw [if_neg hg, if_neg (by
      unfold ldg
      intro h
      simp only [Bool.and_eq_true, Bool.not_eq_true'] at h
      exact hg ⟨h.1.1.1, h.1.1.2⟩)]
    rfl
theorem dpf_congr {h : Int} {o o' : Int → Int → Bool} {b b' : Int → Int → Int} {T T' : Int → Int × Int} {c s : Int} {n : Nat} (hn : n ≤ 8) (ho : ∀ j : Int, 0 ≤ j → j < 8 → o j c = o' j c) (hb : ∀ j : Int, 0 ≤ j → j < 8 → o j c = true → b j c = b' j c) (hT : ∀ j : Int, 0 ≤ j → j < 8 → T (iOr s (iShl 1 j)) = T' (iOr s (iShl 1 j))) : dpf h o b T c s n = dpf h o' b' T' c s n := by
  induction n with
  | zero => rfl
  | succ n ih =>
    rw [dpf_s, dpf_s, ih (by omega), hT n (by omega) (by omega), ← ho n (by omega) (by omega)]
    by_cases hg : o n c = true
    · rw [hb n (by omega) (by omega) hg]
    · rw [if_neg (fun g => hg g.2.1), if_neg (fun g => hg g.2.1)]
theorem dpt_congr {h : Int} {o o' : Int → Int → Bool} {b b' : Int → Int → Int} {C C' : Int → Bool} (hC : ∀ c : Int, 0 ≤ c → c < 8 → C c = C' c) (ho : ∀ j c : Int, 0 ≤ j → j < 8 → 0 ≤ c → c < 8 → C c = true → o j c = o' j c) (hb : ∀ j c : Int, 0 ≤ j → j < 8 → 0 ≤ c → c < 8 → C c = true → o j c = true → b j c = b' j c) (k : Nat) (hk : k ≤ 8) : ∀ s, dpt h o b C k s = dpt h o' b' C' k s := by
  induction k with
  | zero => intro s; rfl
  | succ k ih =>
    intro s
    have ih := ih (by omega)
    rw [dpt_s, dpt_s, ← hC (7 - k) (by omega) (by omega), ih s]
    by_cases hc : C (7 - k) = true
    · rw [if_pos hc, if_pos hc]
      exact dpf_congr (Nat.le_refl _) (fun j h1 h2 => ho j _ h1 h2 (by omega) (by omega) hc) (fun j h1 h2 h3 => hb j _ h1 h2 (by omega) (by omega) hc h3) (fun j _ _ => ih _)
    · rw [if_neg hc, if_neg hc]

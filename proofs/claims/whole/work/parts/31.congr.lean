/-! alike pairs, alike matchings -/
theorem mts_congr {o o' : Int → Int → Bool} {C C' : Int → Bool} (hC : ∀ c : Int, 0 ≤ c → c < 8 → C c = C' c) (ho : ∀ j c : Int, 0 ≤ j → j < 8 → 0 ≤ c → c < 8 → o j c = o' j c) (k : Nat) (hk : k ≤ 8) : ∀ s, mts o C k s = mts o' C' k s := by
  induction k with
  | zero => intro s; rfl
  | succ k ih =>
    intro s
    have ih := ih (by omega)
    rw [mts_s, mts_s, ← hC (7 - k) (by omega) (by omega), ih s]
    split
    · refine fm_congr (fun j hj => ?_)
      rw [ho j (7 - k) (by omega) (by omega) (by omega) (by omega), ih]
    · rfl
theorem tot_congr {o : Int → Int → Bool} {b b' : Int → Int → Int} {C : Int → Bool} (hb : ∀ j c : Int, 0 ≤ j → j < 8 → 0 ≤ c → c < 8 → o j c = true → b j c = b' j c) (k : Nat) (hk : k ≤ 8) : ∀ s l, l ∈ mts o C k s → tot b k l = tot b' k l := by
  induction k with
  | zero => intro s l _; rfl
  | succ k ih =>
    intro s l hl
    rw [mts_s] at hl
    split at hl
    · obtain ⟨j, hj, hj2⟩ := fm_mem.mp hl
      split at hj2
      · rename_i hg
        obtain ⟨l', h1, rfl⟩ := List.mem_map.mp hj2
        have := ih (by omega) _ _ h1
        show (if (j : Int) = -1 then 0 else b j (7 - k)) + tot b k l' = (if (j : Int) = -1 then 0 else b' j (7 - k)) + tot b' k l'
        rw [this, hb j (7 - k) (by omega) (by omega) (by omega) (by omega) hg.2]
      · cases hj2
    · obtain ⟨l', h1, rfl⟩ := List.mem_map.mp hl
      have := ih (by omega) _ _ h1
      show (if (-1 : Int) = -1 then 0 else b (-1) (7 - k)) + tot b k l' = (if (-1 : Int) = -1 then 0 else b' (-1) (7 - k)) + tot b' k l'
      rw [this, if_pos rfl, if_pos rfl]
/-- pairs alike: the same cases, open alike, with the same burdens where open -/
def alk (o : Int → Int → Bool) (b : Int → Int → Int) (C : Int → Bool) (o' : Int → Int → Bool) (b' : Int → Int → Int) (C' : Int → Bool) : Prop := (∀ c : Int, 0 ≤ c → c < 8 → C c = C' c) ∧ (∀ j c : Int, 0 ≤ j → j < 8 → 0 ≤ c → c < 8 → o j c = o' j c) ∧ ∀ j c : Int, 0 ≤ j → j < 8 → 0 ≤ c → c < 8 → o j c = true → b j c = b' j c
theorem alk_s {o o' : Int → Int → Bool} {b b' : Int → Int → Int} {C C' : Int → Bool} (h : alk o b C o' b' C') : alk o' b' C' o b C := ⟨fun c a b => (h.1 c a b).symm, fun j c p q r s => (h.2.1 j c p q r s).symm, fun j c p q r s t => (h.2.2 j c p q r s (by rw [h.2.1 j c p q r s]; exact t)).symm⟩
theorem alk_t {o o' o'' : Int → Int → Bool} {b b' b'' : Int → Int → Int} {C C' C'' : Int → Bool} (h : alk o b C o' b' C') (h' : alk o' b' C' o'' b'' C'') : alk o b C o'' b'' C'' := ⟨fun c a b => (h.1 c a b).trans (h'.1 c a b), fun j c p q r s => (h.2.1 j c p q r s).trans (h'.2.1 j c p q r s), fun j c p q r s t => (h.2.2 j c p q r s t).trans (h'.2.2 j c p q r s (by rw [← h.2.1 j c p q r s]; exact t))⟩
theorem alk_B {o o' : Int → Int → Bool} {b b' : Int → Int → Int} {C C' : Int → Bool} (h : alk o b C o' b' C') (hB : dpB o b) : dpB o' b' := by
  intro j c p q r s t
  have t' : o j c = true := by rw [h.2.1 j c p q r s]; exact t
  rw [← h.2.2 j c p q r s t']
  exact hB j c p q r s t'
theorem alk_dp {o o' : Int → Int → Bool} {b b' : Int → Int → Int} {C C' : Int → Bool} (h : alk o b C o' b' C') (x : Int) {k : Nat} (hk : k ≤ 8) (s : Int) : dpt x o b C k s = dpt x o' b' C' k s := dpt_congr h.1 (fun j c p q r s _ => h.2.1 j c p q r s) (fun j c p q r s _ t => h.2.2 j c p q r s t) k hk s
theorem alk_mts {o o' : Int → Int → Bool} {b b' : Int → Int → Int} {C C' : Int → Bool} (h : alk o b C o' b' C') {k : Nat} (hk : k ≤ 8) (s : Int) : mts o C k s = mts o' C' k s := mts_congr h.1 h.2.1 k hk s
theorem alk_bst {o o' : Int → Int → Bool} {b b' : Int → Int → Int} {C C' : Int → Bool} (h : alk o b C o' b' C') {k : Nat} (hk : k ≤ 8) (s : Int) : bst o b C k s = bst o' b' C' k s := by
  unfold bst
  rw [← alk_dp h 0 hk s, ← alk_mts h hk s]
  refine List.filter_congr (fun l hl => ?_)
  rw [tot_congr h.2.2 k hk s l hl]
theorem alk_cw {o o' : Int → Int → Bool} {b b' : Int → Int → Int} {C C' : Int → Bool} (h : alk o b C o' b' C') {k : Nat} (hk : k ≤ 8) (s j c : Int) : cw o b C k s j c = cw o' b' C' k s j c := by
  unfold cw
  rw [alk_bst h hk s]
theorem top_congr {f f' : List Int → Int} {L T : List (List Int)} (h : Top f L T) (hf : ∀ l ∈ L, f l = f' l) : Top f' L T := by
  obtain ⟨a, b, c, d⟩ := h
  have hl : ∀ x y, x ∈ L → y ∈ L → ltk f x y → ltk f' x y := by
    intro x y hx hy g
    unfold ltk at g ⊢
    rw [← hf x hx, ← hf y hy]
    exact g
  refine ⟨List.Pairwise.imp_of_mem (fun {x y} hx hy g => hl x y (b x hx) (b y hy) g) a, b, c, fun x hx hn => ⟨(d x hx hn).1, fun y hy => hl y x (b y hy) hx ((d x hx hn).2 y hy)⟩⟩
theorem alk_top {o o' : Int → Int → Bool} {b b' : Int → Int → Int} {C C' : Int → Bool} (h : alk o b C o' b' C') {T : List (List Int)} (ht : Top (tot b 8) (mts o C 8 0) T) : Top (tot b' 8) (mts o' C' 8 0) T := by
  rw [← alk_mts h (Nat.le_refl 8) 0]
  exact top_congr ht (fun l hl => tot_congr h.2.2 8 (Nat.le_refl 8) 0 l hl)

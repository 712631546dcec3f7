/-! the reference's next ones: enters, walks, lists -/
def rEt (m : jM) (b : Int → Int → Int) (i : Int) (l : List Int) : Prop := m 133 i = tot b 8 l ∧ ∀ c : Int, 0 ≤ c → c < 8 → m 134 (8 * i + c) = l.getD c.toNat (-1)
def rSt (m : jM) (b : Int → Int → Int) (T : List (List Int)) : Prop := m 103 48 = T.length ∧ ∀ i : Int, 0 ≤ i → i < T.length → rEt m b i (T.getD i.toNat [])
theorem ins_get {T : List (List Int)} {x : List Int} {n : Nat} (hn : n ≤ T.length) (i : Nat) : (T.take n ++ x :: T.drop n).getD i [] = if i < n then T.getD i [] else if i = n then x else T.getD (i - 1) [] := by
  rw [List.getD_eq_getElem?_getD, List.getD_eq_getElem?_getD, List.getD_eq_getElem?_getD, List.getElem?_append, List.length_take, Nat.min_eq_left hn]
  split
  · rename_i h
    rw [List.getElem?_take, if_pos h]
  · rename_i h
    split
    · rename_i h2
      rw [h2, Nat.sub_self]
      rfl
    · rename_i h2
      rw [show i - n = (i - n - 1) + 1 by omega, List.getElem?_cons_succ, List.getElem?_drop]
      congr 2
      omega
theorem s_enters {d : Nat} {v : Int} {b : Int → Int → Int} {T : List (List Int)} {l : List Int} {m : jM} {Q : Int → jM → Prop} (hs : T.Pairwise (ltk (tot b 8))) (hlen : T.length ≤ 12) (hst : rSt m b T) (hl : ∀ c : Int, 0 ≤ c → c < 8 → m 131 c = l.getD c.toNat (-1)) (hv : tot b 8 l = v)
    (h : ∀ (m' : jM) (n : Nat), n ≤ T.length → (∀ y ∈ T.take n, tot b 8 y ≤ v) → (∀ y ∈ T.drop n, v < tot b 8 y) → (∀ q, q ≠ 103 → q ≠ 133 → q ≠ 134 → m' q = m q) → (∀ j, j ≠ 48 → m' 103 j = m 103 j) → rSt m' b ((T.take n ++ l :: T.drop n).take 12) → Q 0 m') : jK (d + 1) zX11_enters [jO 11 103, jL v] m Q := by
  have hN := hst.1
  -- the judges of the new one are laid
  have L94 : ∀ (r : Nat) (n : Nat) (x c : Int) (m1 : jM), x = n → n ≤ T.length → (∀ y ∈ T.take n, tot b 8 y ≤ v) → (∀ y ∈ T.drop n, v < tot b 8 y) → 0 ≤ c → c + r = 8 → (∀ q, q ≠ 133 → q ≠ 134 → m1 q = m q) →
      (∀ i : Int, 0 ≤ i → i < x → rEt m1 b i (T.getD i.toNat [])) → (∀ i : Int, x < i → i ≤ T.length → rEt m1 b i (T.getD (i - 1).toNat [])) → m1 133 x = v → (∀ c' : Int, 0 ≤ c' → c' < c → m1 134 (8 * x + c') = l.getD c'.toNat (-1)) → aX11_enters_94 d x c m1 Q := by
    intro r
    induction r with
    | zero =>
      intro n x c m1 hxn hn ht hd hc hr f0 f1 f2 f3 f4
      have hUl : (T.take n ++ l :: T.drop n).length = T.length + 1 := by
        rw [List.length_append, List.length_cons, List.length_take, List.length_drop]; omega
      have hent : ∀ (m2 : jM), (m2 133 = m1 133) → (m2 134 = m1 134) → ∀ i : Int, 0 ≤ i → i < ((T.take n ++ l :: T.drop n).take 12).length → rEt m2 b i (((T.take n ++ l :: T.drop n).take 12).getD i.toNat []) := by
        intro m2 k1 k2 i h0 hi
        rw [List.length_take, hUl] at hi
        have e : ((T.take n ++ l :: T.drop n).take 12).getD i.toNat [] = (T.take n ++ l :: T.drop n).getD i.toNat [] := by
          rw [List.getD_eq_getElem?_getD, List.getElem?_take, if_pos (by omega), ← List.getD_eq_getElem?_getD]
        rw [e, ins_get hn]
        unfold rEt at f1 f2 ⊢
        rw [k1, k2]
        split
        · exact f1 i h0 (by omega)
        · split
          · rename_i h2
            rw [show i = x by omega]
            exact ⟨by rw [f3, hv], fun c' g1 g2 => f4 c' g1 (by omega)⟩
          · have := f2 i (by omega) (by omega)
            rw [show (i - 1).toNat = i.toNat - 1 by omega] at this
            exact this
      have f104 := f0 103 (by omega) (by omega)
      refine gX11_enters_94 d x c m1 Q ⟨fun q => by omega, fun _ => ⟨fun q => ?_, fun q => ?_⟩⟩
      · rw [f104, hN] at q
        rw [f104, hN, w32_id (by omega) (by omega)]
        refine h _ n hn ht hd (fun q k1 k2 k3 => by rw [up_ne k1]; exact f0 q k2 k3) (fun j hj => by rw [up_oth hj, f104]) ⟨?_, hent _ (up_ne (by omega)) (up_ne (by omega))⟩
        rw [up_same, List.length_take, hUl]
        omega
      · rw [f104, hN] at q
        refine h _ n hn ht hd (fun q k1 k2 k3 => f0 q k2 k3) (fun j hj => by rw [f104]) ⟨?_, hent _ rfl rfl⟩
        rw [f104, hN, List.length_take, hUl]
        omega
    | succ r ih =>
      intro n x c m1 hxn hn ht hd hc hr f0 f1 f2 f3 f4
      have e1 : w32 (w32 (8 * x) + c) = 8 * x + c := by simp (disch := omega) only [w32_id]
      have e2 : w32 (c + 1) = c + 1 := w32_id (by omega) (by omega)
      refine gX11_enters_94 d x c m1 Q ⟨fun _ => ⟨by omega, by rw [e1]; omega, ?_⟩, fun q => by omega⟩
      rw [e1, e2, f0 131 (by omega) (by omega), hl c hc (by omega)]
      refine ih n x (c + 1) _ hxn hn ht hd (by omega) (by omega) (fun q k1 k2 => by rw [up_ne k2]; exact f0 q k1 k2) (fun i h0 hi => ?_) (fun i h0 hi => ?_) (by rw [up_ne (by omega)]; exact f3) (fun c' g1 g2 => ?_)
      · have := f1 i h0 hi
        refine ⟨by rw [up_ne (by omega)]; exact this.1, fun c' g1 g2 => by rw [up_oth (by omega)]; exact this.2 c' g1 g2⟩
      · have := f2 i h0 hi
        refine ⟨by rw [up_ne (by omega)]; exact this.1, fun c' g1 g2 => by rw [up_oth (by omega)]; exact this.2 c' g1 g2⟩
      · rw [up_eq]
        split
        · rw [show c' = c by omega]
        · exact f4 c' g1 (by omega)
  -- those that are more go one further
  have L5 : ∀ (n : Nat) (x : Int) (m1 : jM), x = n → n ≤ T.length → (∀ y ∈ T.drop n, v < tot b 8 y) → (∀ q, q ≠ 133 → q ≠ 134 → m1 q = m q) →
      (∀ i : Int, 0 ≤ i → i < x → rEt m1 b i (T.getD i.toNat [])) → (∀ i : Int, x < i → i ≤ T.length → rEt m1 b i (T.getD (i - 1).toNat [])) → aX11_enters_5 d v x m1 Q := by
    intro n
    have goIn : ∀ (n : Nat) (x : Int) (m1 : jM), x = n → n ≤ T.length → (∀ y ∈ T.take n, tot b 8 y ≤ v) → (∀ y ∈ T.drop n, v < tot b 8 y) → (∀ q, q ≠ 133 → q ≠ 134 → m1 q = m q) →
      (∀ i : Int, 0 ≤ i → i < x → rEt m1 b i (T.getD i.toNat [])) → (∀ i : Int, x < i → i ≤ T.length → rEt m1 b i (T.getD (i - 1).toNat [])) → aX11_enters_94 d x 0 (jUp m1 133 x v) Q := by
      intro n x m1 hxn hn ht hd f0 f1 f2
      refine L94 8 n x 0 _ hxn hn ht hd (by omega) (by omega) (fun q k1 k2 => by rw [up_ne k1]; exact f0 q k1 k2) (fun i h0 hi => ?_) (fun i h0 hi => ?_) up_same (fun c' g1 g2 => by omega)
      · have := f1 i h0 hi
        exact ⟨by rw [up_oth (by omega)]; exact this.1, fun c' g1 g2 => by rw [up_ne (by omega)]; exact this.2 c' g1 g2⟩
      · have := f2 i h0 hi
        exact ⟨by rw [up_oth (by omega)]; exact this.1, fun c' g1 g2 => by rw [up_ne (by omega)]; exact this.2 c' g1 g2⟩
    induction n with
    | zero =>
      intro x m1 hxn hn hd f0 f1 f2
      refine gX11_enters_5 d v _ m1 Q ⟨fun q => by omega, fun _ => ⟨by omega, ?_⟩⟩
      exact goIn 0 x m1 hxn hn (fun y hy => by simp at hy) hd f0 f1 f2
    | succ n ih =>
      intro x m1 hxn hn hd f0 f1 f2
      have e1 : w32 (x - 1) = x - 1 := by rw [w32_id (by omega) (by omega)]
      have e1' : w32 (x + (-1)) = x - 1 := by rw [w32_id (by omega) (by omega)]; omega
      have hx1 : (x - 1).toNat = n := by omega
      have hget : T.getD n [] = T[n]'(by omega) := by rw [List.getD_eq_getElem?_getD, List.getElem?_eq_getElem (by omega)]; rfl
      have hent := f1 (x - 1) (by omega) (by omega)
      rw [hx1] at hent
      refine gX11_enters_5 d v _ m1 Q ⟨fun _ => ⟨by rw [e1]; omega, fun q => ⟨by rw [e1]; omega, by omega, ?_⟩, fun q => ⟨by omega, ?_⟩⟩, fun q => by omega⟩
      · rw [e1, hent.1] at q
        rw [e1, hent.1]
        have hd' : ∀ y ∈ T.drop n, v < tot b 8 y := by
          intro y hy
          rw [List.drop_eq_getElem_cons (by omega)] at hy
          rcases List.mem_cons.mp hy with rfl | hy
          · rw [← hget]; exact q
          · exact hd y hy
        have L39 : ∀ (r : Nat) (c : Int) (m2 : jM), 0 ≤ c → c + r = 8 → (∀ q, q ≠ 133 → q ≠ 134 → m2 q = m q) →
            (∀ i : Int, 0 ≤ i → i < x → rEt m2 b i (T.getD i.toNat [])) → (∀ i : Int, x < i → i ≤ T.length → rEt m2 b i (T.getD (i - 1).toNat [])) → m2 133 x = tot b 8 (T.getD n []) → (∀ c' : Int, 0 ≤ c' → c' < c → m2 134 (8 * x + c') = (T.getD n []).getD c'.toNat (-1)) → aX11_enters_39 d v x c m2 Q := by
          intro r
          induction r with
          | zero =>
            intro c m2 hc hr k0 k1 k2 k3 k4
            refine gX11_enters_39 d v _ c m2 Q ⟨fun q => by omega, fun _ => ?_⟩
            rw [e1']
            refine ih (x - 1) m2 (by omega) (by omega) hd' k0 (fun i h0 hi => k1 i h0 (by omega)) (fun i h0 hi => ?_)
            by_cases he : i = x
            · subst he
              rw [hx1]
              exact ⟨k3, fun c' g1 g2 => k4 c' g1 (by omega)⟩
            · exact k2 i (by omega) hi
          | succ r ihr =>
            intro c m2 hc hr k0 k1 k2 k3 k4
            have e2 : w32 (w32 (8 * x) + c) = 8 * x + c := by simp (disch := omega) only [w32_id]
            have e3 : w32 (w32 (8 * (x - 1)) + c) = 8 * (x - 1) + c := by simp (disch := omega) only [w32_id]
            have e4 : w32 (c + 1) = c + 1 := w32_id (by omega) (by omega)
            have hen := k1 (x - 1) (by omega) (by omega)
            rw [hx1] at hen
            refine gX11_enters_39 d v _ c m2 Q ⟨fun _ => ⟨by rw [e1, e3]; omega, by rw [e2]; omega, ?_⟩, fun q => by omega⟩
            rw [e1, e2, e3, e4, hen.2 c hc (by omega)]
            refine ihr (c + 1) _ (by omega) (by omega) (fun q g1 g2 => by rw [up_ne g2]; exact k0 q g1 g2) (fun i h0 hi => ?_) (fun i h0 hi => ?_) (by rw [up_ne (by omega)]; exact k3) (fun c' g1 g2 => ?_)
            · have := k1 i h0 hi
              exact ⟨by rw [up_ne (by omega)]; exact this.1, fun c' g1 g2 => by rw [up_oth (by omega)]; exact this.2 c' g1 g2⟩
            · have := k2 i h0 hi
              exact ⟨by rw [up_ne (by omega)]; exact this.1, fun c' g1 g2 => by rw [up_oth (by omega)]; exact this.2 c' g1 g2⟩
            · rw [up_eq]
              split
              · rw [show c' = c by omega]
              · exact k4 c' g1 (by omega)
        refine L39 8 0 _ (by omega) (by omega) (fun q g1 g2 => by rw [up_ne g1]; exact f0 q g1 g2) (fun i h0 hi => ?_) (fun i h0 hi => ?_) up_same (fun c' g1 g2 => by omega)
        · have := f1 i h0 hi
          exact ⟨by rw [up_oth (by omega)]; exact this.1, fun c' g1 g2 => by rw [up_ne (by omega)]; exact this.2 c' g1 g2⟩
        · have := f2 i h0 hi
          exact ⟨by rw [up_oth (by omega)]; exact this.1, fun c' g1 g2 => by rw [up_ne (by omega)]; exact this.2 c' g1 g2⟩
      · rw [e1, hent.1] at q
        refine goIn (n + 1) x m1 hxn hn (fun y hy => ?_) hd f0 f1 f2
        obtain ⟨i, hi, rfl⟩ := List.getElem_of_mem hy
        rw [List.length_take] at hi
        rw [List.getElem_take]
        by_cases he : i = n
        · subst he; rw [← hget]; omega
        · have := ltk_le (srt_get hs (show i < n by omega) (show n < T.length by omega))
          rw [hget] at q
          omega
  refine gX11_enters d v m Q ?_
  rw [hN]
  refine L5 T.length _ m rfl (Nat.le_refl _) (fun y hy => by simp at hy) (fun _ _ _ => rfl) (fun i h0 hi => hst.2 i h0 hi) (fun i h0 hi => by omega)

/-! the run of the rounds -/
def rdK (b : Int → Int → Int) (s : (Int → Int) × (Int → Int)) (j c : Int) : Int := w64 (w64 (b j c + s.1 j) - s.2 c)
def rdE (O : Int → Int → Bool) (b : Int → Int → Int) (s : (Int → Int) × (Int → Int)) : Int → Int → Bool := fun j c => O j c && decide (rdK b s j c = 0)
noncomputable def rdM (O : Int → Int → Bool) (b : Int → Int → Int) (C : Int → Bool) (s : (Int → Int) × (Int → Int)) : Int × Int × Int := Classical.epsilon (fun q : Int × Int × Int => mMk (rdE O b s) (fun c => C c = true) q.2.1 q.2.2 q.1)
theorem rdM_ok (O : Int → Int → Bool) (b : Int → Int → Int) (C : Int → Bool) (s : (Int → Int) × (Int → Int)) : mMk (rdE O b s) (fun c => C c = true) (rdM O b C s).2.1 (rdM O b C s).2.2 (rdM O b C s).1 := Classical.epsilon_spec (mMk_ex (rdE O b s) (fun c => C c = true))
def rdV (O : Int → Int → Bool) (b : Int → Int → Int) (s : (Int → Int) × (Int → Int)) (A B : Int) : Nat → Int → Int → Int
  | 0, _, v => v
  | r + 1, p, v => rdV O b s A B r (p + 1) (if O (p / 8) (p % 8) = true ∧ bt A (p % 8) = true ∧ bt B (p / 8) = false then (if v = -1 then rdK b s (p / 8) (p % 8) else min v (rdK b s (p / 8) (p % 8))) else v)
noncomputable def rdR (O : Int → Int → Bool) (b : Int → Int → Int) (C : Int → Bool) (s : (Int → Int) × (Int → Int)) : Int := rdV O b s (rdM O b C s).2.1 (rdM O b C s).2.2 64 0 (-1)
noncomputable def rdX (O : Int → Int → Bool) (b : Int → Int → Int) (C : Int → Bool) (s : (Int → Int) × (Int → Int)) : (Int → Int) × (Int → Int) :=
  (fun j => if bt (rdM O b C s).2.2 j = true then w64 (s.1 j + rdR O b C s) else s.1 j, fun c => if bt (rdM O b C s).2.1 c = true then w64 (s.2 c + rdR O b C s) else s.2 c)
noncomputable def rdN (O : Int → Int → Bool) (b : Int → Int → Int) (C : Int → Bool) (s : (Int → Int) × (Int → Int)) : Nat → (Int → Int) × (Int → Int)
  | 0 => s
  | i + 1 => rdX O b C (rdN O b C s i)
def rdT (O : Int → Int → Bool) (b : Int → Int → Int) (s : (Int → Int) × (Int → Int)) : Int := sv (fun c => pcn (fun j => rdE O b s j c) 8) 8 0
theorem rdV_ex {O : Int → Int → Bool} {b : Int → Int → Int} {s : (Int → Int) × (Int → Int)} {A B : Int} (r : Nat) : ∀ (p v : Int), 0 ≤ p → p + r ≤ 64 → rdV O b s A B r p v = v ∨ ∃ j c : Int, (0 ≤ j ∧ j < 8) ∧ (0 ≤ c ∧ c < 8) ∧ O j c = true ∧ bt A c = true ∧ bt B j = false ∧ rdV O b s A B r p v = rdK b s j c := by
  induction r with
  | zero => intro p v _ _; exact Or.inl rfl
  | succ r ih =>
    intro p v hp hr
    have e : rdV O b s A B (r + 1) p v = rdV O b s A B r (p + 1) (if O (p / 8) (p % 8) = true ∧ bt A (p % 8) = true ∧ bt B (p / 8) = false then (if v = -1 then rdK b s (p / 8) (p % 8) else min v (rdK b s (p / 8) (p % 8))) else v) := rfl
    rw [e]
    rcases ih (p + 1) (if O (p / 8) (p % 8) = true ∧ bt A (p % 8) = true ∧ bt B (p / 8) = false then (if v = -1 then rdK b s (p / 8) (p % 8) else min v (rdK b s (p / 8) (p % 8))) else v) (by omega) (by omega) with h | h
    · rw [h]
      by_cases hg : O (p / 8) (p % 8) = true ∧ bt A (p % 8) = true ∧ bt B (p / 8) = false
      · rw [if_pos hg]
        have hj : (0 ≤ p / 8 ∧ p / 8 < 8) ∧ (0 ≤ p % 8 ∧ p % 8 < 8) := by omega
        split
        · exact Or.inr ⟨p / 8, p % 8, hj.1, hj.2, hg.1, hg.2.1, hg.2.2, rfl⟩
        · by_cases hm : v ≤ rdK b s (p / 8) (p % 8)
          · left; omega
          · right; exact ⟨p / 8, p % 8, hj.1, hj.2, hg.1, hg.2.1, hg.2.2, by omega⟩
      · rw [if_neg hg]; exact Or.inl rfl
    · exact Or.inr h
theorem w64_both (a t p v : Int) : w64 (w64 (a + w64 (t + v)) - w64 (p + v)) = w64 (w64 (a + t) - p) := by unfold w64; omega
theorem w64_rise (x p : Int) : w64 (w64 x - w64 (p + w64 (w64 x - p))) = 0 := by unfold w64; omega
theorem rd_step {O : Int → Int → Bool} {b : Int → Int → Int} {C : Int → Bool} {s : (Int → Int) × (Int → Int)} (hv : rdR O b C s ≠ -1) : (rdM O b C s).1 < (rdM O b C (rdX O b C s)).1 ∨ ((rdM O b C s).1 = (rdM O b C (rdX O b C s)).1 ∧ pc8 (rdM O b C s).2.2 + 1 ≤ pc8 (rdM O b C (rdX O b C s)).2.2) := by
  have h1 := rdM_ok O b C s
  have h2 := rdM_ok O b C (rdX O b C s)
  rcases rdV_ex (O := O) (b := b) (s := s) (A := (rdM O b C s).2.1) (B := (rdM O b C s).2.2) 64 0 (-1) (by omega) (by omega) with h | ⟨j0, c0, g1, g2, g3, g4, g5, g6⟩
  · exact absurd h hv
  · have ev : rdR O b C s = rdK b s j0 c0 := g6
    refine mMk_step h1 h2 (fun j c j1 j2 c1 c2 _ hab => ?_) g1 g2 g4 g5 ?_
    · have hk : rdK b (rdX O b C s) j c = rdK b s j c := by
        show w64 (w64 (b j c + (if bt (rdM O b C s).2.2 j = true then w64 (s.1 j + rdR O b C s) else s.1 j)) - (if bt (rdM O b C s).2.1 c = true then w64 (s.2 c + rdR O b C s) else s.2 c)) = w64 (w64 (b j c + s.1 j) - s.2 c)
        rw [hab]
        split
        · exact w64_both _ _ _ _
        · rfl
      show (O j c && decide (rdK b (rdX O b C s) j c = 0)) = (O j c && decide (rdK b s j c = 0))
      rw [hk]
    · have hk : rdK b (rdX O b C s) j0 c0 = 0 := by
        show w64 (w64 (b j0 c0 + (if bt (rdM O b C s).2.2 j0 = true then w64 (s.1 j0 + rdR O b C s) else s.1 j0)) - (if bt (rdM O b C s).2.1 c0 = true then w64 (s.2 c0 + rdR O b C s) else s.2 c0)) = 0
        rw [g4, g5, if_pos rfl, if_neg (by simp), ev]
        exact w64_rise _ _
      show (O j0 c0 && decide (rdK b (rdX O b C s) j0 c0 = 0)) = true
      rw [g3, hk]
      rfl
def tri : Nat → Int
  | 0 => 0
  | n + 1 => tri n + n + 1
theorem tri_lt {a b : Nat} (h : a < b) : tri a + a + 1 ≤ tri b := by
  induction h with
  | refl => exact Int.le_refl _
  | @step m _ ih =>
    have e : tri (m + 1) = tri m + m + 1 := rfl
    show tri a + a + 1 ≤ tri (m + 1)
    omega
theorem rd_meas {O : Int → Int → Bool} {b : Int → Int → Int} {C : Int → Bool} {s : (Int → Int) × (Int → Int)} (i : Nat) (h : ∀ k, k < i → rdR O b C (rdN O b C s k) ≠ -1) : (i : Int) ≤ tri (rdM O b C (rdN O b C s i)).1.toNat + pc8 (rdM O b C (rdN O b C s i)).2.2 := by
  induction i with
  | zero =>
    have h1 : ∀ n : Nat, 0 ≤ tri n := by
      intro n
      induction n with
      | zero => exact Int.le_refl _
      | succ n ih => have e : tri (n + 1) = tri n + n + 1 := rfl; omega
    have := h1 (rdM O b C (rdN O b C s 0)).1.toNat
    have := (pc8_r (rdM O b C (rdN O b C s 0)).2.2).1
    omega
  | succ i ih =>
    have ih := ih (fun k hk => h k (by omega))
    have hs := rd_step (h i (by omega))
    have e : rdN O b C s (i + 1) = rdX O b C (rdN O b C s i) := rfl
    rw [e]
    have l1 := mMk_le (rdM_ok O b C (rdN O b C s i))
    have l2 := mMk_le (rdM_ok O b C (rdX O b C (rdN O b C s i)))
    rcases hs with g | ⟨g, g2⟩
    · have := tri_lt (a := (rdM O b C (rdN O b C s i)).1.toNat) (b := (rdM O b C (rdX O b C (rdN O b C s i))).1.toNat) (by omega)
      have := (pc8_r (rdM O b C (rdX O b C (rdN O b C s i))).2.2).1
      omega
    · rw [← g]
      omega
/-- so many rounds -/
def rdL (O : Int → Int → Bool) (b : Int → Int → Int) (C : Int → Bool) (s : (Int → Int) × (Int → Int)) (N : Nat) : Prop := N ≤ 44 ∧ rdR O b C (rdN O b C s N) = -1 ∧ ∀ k, k < N → rdR O b C (rdN O b C s k) ≠ -1
theorem rdL_ex (O : Int → Int → Bool) (b : Int → Int → Int) (C : Int → Bool) (s : (Int → Int) × (Int → Int)) : ∃ N, rdL O b C s N := by
  have key : ∀ r : Nat, r ≤ 45 → (∀ k, k < 45 - r → rdR O b C (rdN O b C s k) ≠ -1) → ∃ N, rdL O b C s N := by
    intro r
    induction r with
    | zero =>
      intro _ h
      exfalso
      have h1 := rd_meas 45 h
      have h2 := mMk_le (rdM_ok O b C (rdN O b C s 45))
      have h3 : ∀ n : Nat, n ≤ 8 → tri n + n ≤ 44 := by
        intro n hn
        have : ∀ k : Fin 9, tri k.val + k.val ≤ 44 := by decide
        exact this ⟨n, by omega⟩
      have := h3 (rdM O b C (rdN O b C s 45)).1.toNat (by omega)
      omega
    | succ r ih =>
      intro hr h
      by_cases hx : rdR O b C (rdN O b C s (45 - (r + 1))) = -1
      · exact ⟨45 - (r + 1), by omega, hx, h⟩
      · refine ih (by omega) (fun k hk => ?_)
        by_cases hk2 : k = 45 - (r + 1)
        · rw [hk2]; exact hx
        · exact h k (by omega)
  exact key 45 (Nat.le_refl _) (fun k hk => by omega)
theorem rdL_u {O : Int → Int → Bool} {b : Int → Int → Int} {C : Int → Bool} {s : (Int → Int) × (Int → Int)} {N N' : Nat} (h : rdL O b C s N) (h' : rdL O b C s N') : N = N' := by
  rcases Nat.lt_trichotomy N N' with g | g | g
  · exact absurd h.2.1 (h'.2.2 N g)
  · exact g
  · exact absurd h'.2.1 (h.2.2 N' g)
/-- alike pairs, alike rounds -/
theorem rdK_congr {b b' : Int → Int → Int} {s : (Int → Int) × (Int → Int)} {j c : Int} (h : b j c = b' j c) : rdK b s j c = rdK b' s j c := by unfold rdK; rw [h]
theorem rdE_congr {O O' : Int → Int → Bool} {b b' : Int → Int → Int} (hO : ∀ j c : Int, 0 ≤ j → j < 8 → 0 ≤ c → c < 8 → O j c = O' j c) (hb : ∀ j c : Int, 0 ≤ j → j < 8 → 0 ≤ c → c < 8 → O j c = true → b j c = b' j c) (s : (Int → Int) × (Int → Int)) : ∀ j c : Int, 0 ≤ j → j < 8 → 0 ≤ c → c < 8 → rdE O b s j c = rdE O' b' s j c := by
  intro j c j1 j2 c1 c2
  unfold rdE
  rw [← hO j c j1 j2 c1 c2]
  cases h : O j c with
  | false => rfl
  | true => rw [rdK_congr (hb j c j1 j2 c1 c2 h)]
theorem rdM_congr {O O' : Int → Int → Bool} {b b' : Int → Int → Int} {C C' : Int → Bool} (hO : ∀ j c : Int, 0 ≤ j → j < 8 → 0 ≤ c → c < 8 → O j c = O' j c) (hb : ∀ j c : Int, 0 ≤ j → j < 8 → 0 ≤ c → c < 8 → O j c = true → b j c = b' j c) (hC : ∀ c : Int, 0 ≤ c → c < 8 → C c = C' c) (s : (Int → Int) × (Int → Int)) : rdM O b C s = rdM O' b' C' s := by
  obtain ⟨e1, e2, e3⟩ := mMk_u (fun c c1 c2 => by rw [hC c c1 c2]) (fun j c j1 j2 c1 c2 _ => rdE_congr hO hb s j c j1 j2 c1 c2) (rdM_ok O b C s) (rdM_ok O' b' C' s)
  exact Prod.ext e3 (Prod.ext e1 e2)
theorem rdV_congr {O O' : Int → Int → Bool} {b b' : Int → Int → Int} (hO : ∀ j c : Int, 0 ≤ j → j < 8 → 0 ≤ c → c < 8 → O j c = O' j c) (hb : ∀ j c : Int, 0 ≤ j → j < 8 → 0 ≤ c → c < 8 → O j c = true → b j c = b' j c) (s : (Int → Int) × (Int → Int)) (A B : Int) (r : Nat) : ∀ p v : Int, 0 ≤ p → p + r ≤ 64 → rdV O b s A B r p v = rdV O' b' s A B r p v := by
  induction r with
  | zero => intro p v _ _; rfl
  | succ r ih =>
    intro p v hp hr
    have hj : (0 ≤ p / 8 ∧ p / 8 < 8) ∧ (0 ≤ p % 8 ∧ p % 8 < 8) := by omega
    show rdV O b s A B r (p + 1) _ = rdV O' b' s A B r (p + 1) _
    rw [ih (p + 1) _ (by omega) (by omega), ← hO _ _ hj.1.1 hj.1.2 hj.2.1 hj.2.2]
    by_cases h : O (p / 8) (p % 8) = true
    · rw [rdK_congr (hb _ _ hj.1.1 hj.1.2 hj.2.1 hj.2.2 h)]
    · rw [if_neg (fun g => h g.1), if_neg (fun g => h g.1)]
theorem rdR_congr {O O' : Int → Int → Bool} {b b' : Int → Int → Int} {C C' : Int → Bool} (hO : ∀ j c : Int, 0 ≤ j → j < 8 → 0 ≤ c → c < 8 → O j c = O' j c) (hb : ∀ j c : Int, 0 ≤ j → j < 8 → 0 ≤ c → c < 8 → O j c = true → b j c = b' j c) (hC : ∀ c : Int, 0 ≤ c → c < 8 → C c = C' c) (s : (Int → Int) × (Int → Int)) : rdR O b C s = rdR O' b' C' s := by
  unfold rdR
  rw [rdM_congr hO hb hC s]
  exact rdV_congr hO hb s _ _ 64 0 (-1) (by omega) (by omega)
theorem rdN_congr {O O' : Int → Int → Bool} {b b' : Int → Int → Int} {C C' : Int → Bool} (hO : ∀ j c : Int, 0 ≤ j → j < 8 → 0 ≤ c → c < 8 → O j c = O' j c) (hb : ∀ j c : Int, 0 ≤ j → j < 8 → 0 ≤ c → c < 8 → O j c = true → b j c = b' j c) (hC : ∀ c : Int, 0 ≤ c → c < 8 → C c = C' c) (s : (Int → Int) × (Int → Int)) (i : Nat) : rdN O b C s i = rdN O' b' C' s i := by
  induction i with
  | zero => rfl
  | succ i ih =>
    show rdX O b C (rdN O b C s i) = rdX O' b' C' (rdN O' b' C' s i)
    rw [ih]
    unfold rdX
    rw [rdM_congr hO hb hC, rdR_congr hO hb hC]
theorem rdT_congr {O O' : Int → Int → Bool} {b b' : Int → Int → Int} (hO : ∀ j c : Int, 0 ≤ j → j < 8 → 0 ≤ c → c < 8 → O j c = O' j c) (hb : ∀ j c : Int, 0 ≤ j → j < 8 → 0 ≤ c → c < 8 → O j c = true → b j c = b' j c) (s : (Int → Int) × (Int → Int)) : rdT O b s = rdT O' b' s := by
  unfold rdT
  exact sv_congr _ _ (fun c c1 c2 => pcn_ext (fun j j1 j2 => rdE_congr hO hb s j c j1 j2 c1 (by omega)))
theorem rdL_congr {O O' : Int → Int → Bool} {b b' : Int → Int → Int} {C C' : Int → Bool} (hO : ∀ j c : Int, 0 ≤ j → j < 8 → 0 ≤ c → c < 8 → O j c = O' j c) (hb : ∀ j c : Int, 0 ≤ j → j < 8 → 0 ≤ c → c < 8 → O j c = true → b j c = b' j c) (hC : ∀ c : Int, 0 ≤ c → c < 8 → C c = C' c) {s : (Int → Int) × (Int → Int)} {N : Nat} (h : rdL O b C s N) : rdL O' b' C' s N := by
  obtain ⟨h1, h2, h3⟩ := h
  refine ⟨h1, ?_, fun k hk => ?_⟩
  · rw [← rdN_congr hO hb hC, ← rdR_congr hO hb hC]; exact h2
  · rw [← rdN_congr hO hb hC, ← rdR_congr hO hb hC]; exact h3 k hk

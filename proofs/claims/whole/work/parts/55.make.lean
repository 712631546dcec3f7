/-! THE CONSTRUCTORS: what is written, kept as a list, newest first -/
def val : List (Int × Int × Int × Int) → Int → Int → Int
  | [], k, i => jDf k i
  | w :: g, k, i => if k = w.1 ∧ w.2.1 ≤ i ∧ i < w.2.1 + w.2.2.1 then w.2.2.2 else val g k i
theorem val_c {w : Int × Int × Int × Int} {g : List (Int × Int × Int × Int)} {k i : Int} : val (w :: g) k i = if k = w.1 ∧ w.2.1 ≤ i ∧ i < w.2.1 + w.2.2.1 then w.2.2.2 else val g k i := rfl
theorem val_out {g : List (Int × Int × Int × Int)} {k : Int} (h : ∀ w ∈ g, ¬ w.1 = k) (i : Int) : val g k i = jDf k i := by
  induction g with
  | nil => rfl
  | cons w g ih =>
    rw [val_c, if_neg (fun a => h w (List.mem_cons_self ..) a.1.symm)]
    exact ih (fun v hv => h v (List.mem_cons_of_mem _ hv))
/-- c cells are made, the room ends at l, the script is x, all else is the list g -/
def mR (m : jM) (c l : Int) (x : Int → Int) (g : List (Int × Int × Int × Int)) : Prop := m (-3) 0 = c ∧ m (-2) (-7) = l ∧ (∀ j, j ≠ -7 → m (-2) j = x j) ∧ (∀ w ∈ g, w.1 < c) ∧ ∀ k i, 0 ≤ k → k < c → m k i = val g k i
theorem mR_cg {m : jM} {c l c' l' : Int} {x : Int → Int} {g : List (Int × Int × Int × Int)} (H : mR m c l x g) (hc : c' = c) (hl : l' = l) : mR m c' l' x g := by subst hc hl; exact H
theorem mR_up {m : jM} {c l k i v : Int} {x : Int → Int} {g : List (Int × Int × Int × Int)} (H : mR m c l x g) (k0 : 0 ≤ k) (k1 : k < c) : mR (jUp m k i v) c l x ((k, i, 1, v) :: g) := by
  obtain ⟨a1, a2, a3, a4, a5⟩ := H
  refine ⟨by rw [up_ne (by omega)]; exact a1, by rw [up_ne (by omega)]; exact a2, fun j hj => by rw [up_ne (by omega)]; exact a3 j hj, fun w hw => ?_, fun q j q0 q1 => ?_⟩
  · rcases List.mem_cons.mp hw with rfl | hw
    · exact k1
    · exact a4 w hw
  · rw [val_c]
    dsimp only
    by_cases hq : q = k
    · subst hq
      by_cases hj : j = i
      · subst hj
        rw [up_same, if_pos (by omega)]
      · rw [up_oth hj, if_neg (by omega)]
        exact a5 q j q0 q1
    · rw [up_ne hq, if_neg (fun a => hq a.1)]
      exact a5 q j q0 q1
theorem mR_fil {m : jM} {c l k n v : Int} {x : Int → Int} {g : List (Int × Int × Int × Int)} (H : mR m c l x g) (k0 : 0 ≤ k) (k1 : k < c) : mR (jFil m k n v) c l x ((k, 0, n, v) :: g) := by
  obtain ⟨a1, a2, a3, a4, a5⟩ := H
  have u : ∀ q j, ¬ (q = k ∧ 0 ≤ j ∧ j < n) → jFil m k n v q j = m q j := fun q j hq => if_neg hq
  refine ⟨by rw [u _ _ (by omega)]; exact a1, by rw [u _ _ (by omega)]; exact a2, fun j hj => by rw [u _ _ (by omega)]; exact a3 j hj, fun w hw => ?_, fun q j q0 q1 => ?_⟩
  · rcases List.mem_cons.mp hw with rfl | hw
    · exact k1
    · exact a4 w hw
  · rw [val_c]
    dsimp only
    by_cases hq : q = k ∧ 0 ≤ j ∧ j < n
    · rw [if_pos (by omega)]
      exact if_pos hq
    · rw [u q j hq, if_neg (by omega)]
      exact a5 q j q0 q1
theorem mR_nw {m : jM} {c l c' : Int} {x : Int → Int} {g : List (Int × Int × Int × Int)} (H : mR m c l x g) (hc : 0 ≤ c) (hc' : c' = c + 1) : mR (jNw m) c' l x g := by
  obtain ⟨a1, a2, a3, a4, a5⟩ := H
  subst hc'
  have u : ∀ q j, q ≠ c → ¬ (q = -3 ∧ j = 0) → jNw m q j = m q j := fun q j h1 h2 => by
    unfold jNw
    rw [a1, if_neg h1, if_neg h2]
  have e : jNw m (-3) 0 = c + 1 := by
    unfold jNw
    rw [a1, if_neg (by omega), if_pos ⟨rfl, rfl⟩]
  refine ⟨e, by rw [u _ _ (by omega) (by omega)]; exact a2, fun j hj => by rw [u _ _ (by omega) (by omega)]; exact a3 j hj, fun w hw => by have := a4 w hw; omega, fun q j q0 q1 => ?_⟩
  by_cases hq : q = c
  · subst hq
    rw [val_out (fun w hw => by have := a4 w hw; omega)]
    unfold jNw
    rw [a1, if_pos rfl]
  · rw [u q j hq (by omega)]
    exact a5 q j q0 (by omega)
theorem mR_sl {m : jM} {c l l' : Int} {x : Int → Int} {g : List (Int × Int × Int × Int)} (H : mR m c l x g) : mR (jUp m (-2) (-7) l') c l' x g := by
  obtain ⟨a1, a2, a3, a4, a5⟩ := H
  exact ⟨by rw [up_ne (by omega)]; exact a1, up_same, fun j hj => by rw [up_oth hj]; exact a3 j hj, a4, fun q j q0 q1 => by rw [up_ne (by omega)]; exact a5 q j q0 q1⟩
theorem mR_jl {m : jM} {c l n : Int} {y : Nat} {x : Int → Int} {g : List (Int × Int × Int × Int)} (H : mR m c l x g) (hy : (jMc y : Int) = n) : mR (jLim m y) c (c + n) x g := by
  unfold jLim
  rw [H.1, hy]
  exact mR_sl H
theorem mR_vl {m : jM} {c l : Int} {x : Int → Int} {g g' : List (Int × Int × Int × Int)} (H : mR m c l x g) (hm : ∀ w ∈ g', w.1 < c) (hv : ∀ k i, val g k i = val g' k i) : mR m c l x g' := by
  obtain ⟨a1, a2, a3, a4, a5⟩ := H
  exact ⟨a1, a2, a3, hm, fun k i k0 k1 => by rw [← hv]; exact a5 k i k0 k1⟩

def lX1 (p : Int) (g : List (Int × Int × Int × Int)) : List (Int × Int × Int × Int) := (p, 4, 1, p + 4) :: (p, 3, 1, p + 3) :: (p, 2, 1, p + 2) :: (p, 1, 1, p + 1) :: (p, 0, 1, 0) :: g
theorem ini_X1 {d : Nat} {p : Int} {m : jM} {x : Int → Int} {g : List (Int × Int × Int × Int)} {Q : Int → jM → Prop} (hp : p ∈ ([88] : List Int)) (H : mR m (p + 1) (p + 5) x g) (hQ : ∀ m', mR m' (p + 5) (p + 5) x (lX1 p g) → Q 0 m') : jK (d + 1) zX1_init [jO 1 p] m Q := by
  have K : ∀ p ∈ ([88] : List Int), 0 ≤ p ∧ (jKd (p + 1) = 21 ∧ jLn (p + 1) = 8) ∧ (jKd (p + 2) = 20 ∧ jLn (p + 2) = 64) ∧ (jKd (p + 3) = 20 ∧ jLn (p + 3) = 8) ∧ (jKd (p + 4) = 20 ∧ jLn (p + 4) = 64) := by decide +kernel
  obtain ⟨hp0, K1, K2, K3, K4⟩ := K p hp
  refine gX1_init (d + 0) p m Q ?_
  refine gX1_init_4 (d + 0) p m Q ?_
  have H1 := mR_up (i := 0) (v := 0) H (k := p) (by omega) (by omega)
  generalize jUp m p 0 0 = m1 at H1 ⊢
  refine gX1_init_9 (d + 0) p m1 Q ?_
  rw [H1.1, H1.2.1]
  refine ⟨⟨by omega, K1.1, K1.2⟩, by omega, ?_⟩
  have H2 := mR_up (i := 1) (v := p + 1) (mR_nw (c' := p + 2) H1 (by omega) (by omega)) (k := p) (by omega) (by omega)
  generalize jUp (jNw m1) p 1 (p + 1) = m2 at H2 ⊢
  refine gX1_init_17 (d + 0) p m2 Q ?_
  rw [H2.1, H2.2.1]
  refine ⟨⟨by omega, K2.1, K2.2⟩, by omega, ?_⟩
  have H3 := mR_up (i := 2) (v := p + 2) (mR_nw (c' := p + 3) H2 (by omega) (by omega)) (k := p) (by omega) (by omega)
  generalize jUp (jNw m2) p 2 (p + 2) = m3 at H3 ⊢
  refine gX1_init_25 (d + 0) p m3 Q ?_
  rw [H3.1, H3.2.1]
  refine ⟨⟨by omega, K3.1, K3.2⟩, by omega, ?_⟩
  have H4 := mR_up (i := 3) (v := p + 3) (mR_nw (c' := p + 4) H3 (by omega) (by omega)) (k := p) (by omega) (by omega)
  generalize jUp (jNw m3) p 3 (p + 3) = m4 at H4 ⊢
  refine gX1_init_33 (d + 0) p m4 Q ?_
  rw [H4.1, H4.2.1]
  refine ⟨⟨by omega, K4.1, K4.2⟩, by omega, ?_⟩
  have H5 := mR_up (i := 4) (v := p + 4) (mR_nw (c' := p + 5) H4 (by omega) (by omega)) (k := p) (by omega) (by omega)
  generalize jUp (jNw m4) p 4 (p + 4) = m5 at H5 ⊢
  refine gX1_init_41 (d + 0) m5 Q ⟨by rw [H5.1, H5.2.1], hQ _ H5⟩
def lX2 (p : Int) (g : List (Int × Int × Int × Int)) : List (Int × Int × Int × Int) := (p, 6, 1, p + 4) :: (p, 5, 1, p + 3) :: (p, 4, 1, p + 2) :: (p, 3, 1, p + 1) :: (p, 2, 1, 0) :: (p, 1, 1, 0) :: (p, 0, 1, 0) :: g
theorem ini_X2 {d : Nat} {p : Int} {m : jM} {x : Int → Int} {g : List (Int × Int × Int × Int)} {Q : Int → jM → Prop} (hp : p ∈ ([70] : List Int)) (H : mR m (p + 1) (p + 5) x g) (hQ : ∀ m', mR m' (p + 5) (p + 5) x (lX2 p g) → Q 0 m') : jK (d + 1) zX2_init [jO 2 p] m Q := by
  have K : ∀ p ∈ ([70] : List Int), 0 ≤ p ∧ (jKd (p + 1) = 20 ∧ jLn (p + 1) = 8) ∧ (jKd (p + 2) = 20 ∧ jLn (p + 2) = 8) ∧ (jKd (p + 3) = 20 ∧ jLn (p + 3) = 8) ∧ (jKd (p + 4) = 20 ∧ jLn (p + 4) = 8) := by decide +kernel
  obtain ⟨hp0, K1, K2, K3, K4⟩ := K p hp
  refine gX2_init (d + 0) p m Q ?_
  refine gX2_init_4 (d + 0) p m Q ?_
  have H1 := mR_up (i := 0) (v := 0) H (k := p) (by omega) (by omega)
  generalize jUp m p 0 0 = m1 at H1 ⊢
  refine gX2_init_9 (d + 0) p m1 Q ?_
  have H2 := mR_up (i := 1) (v := 0) H1 (k := p) (by omega) (by omega)
  generalize jUp m1 p 1 0 = m2 at H2 ⊢
  refine gX2_init_14 (d + 0) p m2 Q ?_
  have H3 := mR_up (i := 2) (v := 0) H2 (k := p) (by omega) (by omega)
  generalize jUp m2 p 2 0 = m3 at H3 ⊢
  refine gX2_init_19 (d + 0) p m3 Q ?_
  rw [H3.1, H3.2.1]
  refine ⟨⟨by omega, K1.1, K1.2⟩, by omega, ?_⟩
  have H4 := mR_up (i := 3) (v := p + 1) (mR_nw (c' := p + 2) H3 (by omega) (by omega)) (k := p) (by omega) (by omega)
  generalize jUp (jNw m3) p 3 (p + 1) = m4 at H4 ⊢
  refine gX2_init_27 (d + 0) p m4 Q ?_
  rw [H4.1, H4.2.1]
  refine ⟨⟨by omega, K2.1, K2.2⟩, by omega, ?_⟩
  have H5 := mR_up (i := 4) (v := p + 2) (mR_nw (c' := p + 3) H4 (by omega) (by omega)) (k := p) (by omega) (by omega)
  generalize jUp (jNw m4) p 4 (p + 2) = m5 at H5 ⊢
  refine gX2_init_35 (d + 0) p m5 Q ?_
  rw [H5.1, H5.2.1]
  refine ⟨⟨by omega, K3.1, K3.2⟩, by omega, ?_⟩
  have H6 := mR_up (i := 5) (v := p + 3) (mR_nw (c' := p + 4) H5 (by omega) (by omega)) (k := p) (by omega) (by omega)
  generalize jUp (jNw m5) p 5 (p + 3) = m6 at H6 ⊢
  refine gX2_init_43 (d + 0) p m6 Q ?_
  rw [H6.1, H6.2.1]
  refine ⟨⟨by omega, K4.1, K4.2⟩, by omega, ?_⟩
  have H7 := mR_up (i := 6) (v := p + 4) (mR_nw (c' := p + 5) H6 (by omega) (by omega)) (k := p) (by omega) (by omega)
  generalize jUp (jNw m6) p 6 (p + 4) = m7 at H7 ⊢
  refine gX2_init_51 (d + 0) m7 Q ⟨by rw [H7.1, H7.2.1], hQ _ H7⟩
def lX3 (p : Int) (g : List (Int × Int × Int × Int)) : List (Int × Int × Int × Int) := (p, 7, 1, p + 6) :: (p, 6, 1, p + 5) :: (p, 5, 1, p + 4) :: (p, 4, 1, p + 3) :: (p, 3, 1, 0) :: (p, 2, 1, p + 2) :: (p, 1, 1, p + 1) :: (p, 0, 1, 0) :: g
theorem ini_X3 {d : Nat} {p : Int} {m : jM} {x : Int → Int} {g : List (Int × Int × Int × Int)} {Q : Int → jM → Prop} (hp : p ∈ ([81] : List Int)) (H : mR m (p + 1) (p + 7) x g) (hQ : ∀ m', mR m' (p + 7) (p + 7) x (lX3 p g) → Q 0 m') : jK (d + 1) zX3_init [jO 3 p] m Q := by
  have K : ∀ p ∈ ([81] : List Int), 0 ≤ p ∧ (jKd (p + 1) = 21 ∧ jLn (p + 1) = 12) ∧ (jKd (p + 2) = 20 ∧ jLn (p + 2) = 96) ∧ (jKd (p + 3) = 21 ∧ jLn (p + 3) = 97) ∧ (jKd (p + 4) = 20 ∧ jLn (p + 4) = 776) ∧ (jKd (p + 5) = 20 ∧ jLn (p + 5) = 97) ∧ (jKd (p + 6) = 20 ∧ jLn (p + 6) = 97) := by decide +kernel
  obtain ⟨hp0, K1, K2, K3, K4, K5, K6⟩ := K p hp
  refine gX3_init (d + 0) p m Q ?_
  refine gX3_init_4 (d + 0) p m Q ?_
  have H1 := mR_up (i := 0) (v := 0) H (k := p) (by omega) (by omega)
  generalize jUp m p 0 0 = m1 at H1 ⊢
  refine gX3_init_9 (d + 0) p m1 Q ?_
  rw [H1.1, H1.2.1]
  refine ⟨⟨by omega, K1.1, K1.2⟩, by omega, ?_⟩
  have H2 := mR_up (i := 1) (v := p + 1) (mR_nw (c' := p + 2) H1 (by omega) (by omega)) (k := p) (by omega) (by omega)
  generalize jUp (jNw m1) p 1 (p + 1) = m2 at H2 ⊢
  refine gX3_init_17 (d + 0) p m2 Q ?_
  rw [H2.1, H2.2.1]
  refine ⟨⟨by omega, K2.1, K2.2⟩, by omega, ?_⟩
  have H3 := mR_up (i := 2) (v := p + 2) (mR_nw (c' := p + 3) H2 (by omega) (by omega)) (k := p) (by omega) (by omega)
  generalize jUp (jNw m2) p 2 (p + 2) = m3 at H3 ⊢
  refine gX3_init_25 (d + 0) p m3 Q ?_
  have H4 := mR_up (i := 3) (v := 0) H3 (k := p) (by omega) (by omega)
  generalize jUp m3 p 3 0 = m4 at H4 ⊢
  refine gX3_init_30 (d + 0) p m4 Q ?_
  rw [H4.1, H4.2.1]
  refine ⟨⟨by omega, K3.1, K3.2⟩, by omega, ?_⟩
  have H5 := mR_up (i := 4) (v := p + 3) (mR_nw (c' := p + 4) H4 (by omega) (by omega)) (k := p) (by omega) (by omega)
  generalize jUp (jNw m4) p 4 (p + 3) = m5 at H5 ⊢
  refine gX3_init_38 (d + 0) p m5 Q ?_
  rw [H5.1, H5.2.1]
  refine ⟨⟨by omega, K4.1, K4.2⟩, by omega, ?_⟩
  have H6 := mR_up (i := 5) (v := p + 4) (mR_nw (c' := p + 5) H5 (by omega) (by omega)) (k := p) (by omega) (by omega)
  generalize jUp (jNw m5) p 5 (p + 4) = m6 at H6 ⊢
  refine gX3_init_47 (d + 0) p m6 Q ?_
  rw [H6.1, H6.2.1]
  refine ⟨⟨by omega, K5.1, K5.2⟩, by omega, ?_⟩
  have H7 := mR_up (i := 6) (v := p + 5) (mR_nw (c' := p + 6) H6 (by omega) (by omega)) (k := p) (by omega) (by omega)
  generalize jUp (jNw m6) p 6 (p + 5) = m7 at H7 ⊢
  refine gX3_init_55 (d + 0) p m7 Q ?_
  rw [H7.1, H7.2.1]
  refine ⟨⟨by omega, K6.1, K6.2⟩, by omega, ?_⟩
  have H8 := mR_up (i := 7) (v := p + 6) (mR_nw (c' := p + 7) H7 (by omega) (by omega)) (k := p) (by omega) (by omega)
  generalize jUp (jNw m7) p 7 (p + 6) = m8 at H8 ⊢
  refine gX3_init_63 (d + 0) m8 Q ⟨by rw [H8.1, H8.2.1], hQ _ H8⟩
def lX4 (p : Int) (g : List (Int × Int × Int × Int)) : List (Int × Int × Int × Int) := (p, 9, 1, p + 7) :: (p, 8, 1, p + 6) :: (p, 7, 1, p + 5) :: (p, 6, 1, p + 4) :: (p, 5, 1, p + 3) :: (p, 4, 1, p + 2) :: (p, 3, 1, 0) :: (p, 2, 1, p + 1) :: (p, 1, 1, 0) :: (p, 0, 1, 0) :: g
theorem ini_X4 {d : Nat} {p : Int} {m : jM} {x : Int → Int} {g : List (Int × Int × Int × Int)} {Q : Int → jM → Prop} (hp : p ∈ ([54, 62] : List Int)) (H : mR m (p + 1) (p + 8) x g) (hQ : ∀ m', mR m' (p + 8) (p + 8) x (lX4 p g) → Q 0 m') : jK (d + 1) zX4_init [jO 4 p] m Q := by
  have K : ∀ p ∈ ([54, 62] : List Int), 0 ≤ p ∧ (jKd (p + 1) = 20 ∧ jLn (p + 1) = 8) ∧ (jKd (p + 2) = 21 ∧ jLn (p + 2) = 64) ∧ (jKd (p + 3) = 20 ∧ jLn (p + 3) = 8) ∧ (jKd (p + 4) = 21 ∧ jLn (p + 4) = 256) ∧ (jKd (p + 5) = 20 ∧ jLn (p + 5) = 256) ∧ (jKd (p + 6) = 20 ∧ jLn (p + 6) = 256) ∧ (jKd (p + 7) = 20 ∧ jLn (p + 7) = 64) := by decide +kernel
  obtain ⟨hp0, K1, K2, K3, K4, K5, K6, K7⟩ := K p hp
  refine gX4_init (d + 0) p m Q ?_
  refine gX4_init_4 (d + 0) p m Q ?_
  have H1 := mR_up (i := 0) (v := 0) H (k := p) (by omega) (by omega)
  generalize jUp m p 0 0 = m1 at H1 ⊢
  refine gX4_init_9 (d + 0) p m1 Q ?_
  have H2 := mR_up (i := 1) (v := 0) H1 (k := p) (by omega) (by omega)
  generalize jUp m1 p 1 0 = m2 at H2 ⊢
  refine gX4_init_14 (d + 0) p m2 Q ?_
  rw [H2.1, H2.2.1]
  refine ⟨⟨by omega, K1.1, K1.2⟩, by omega, ?_⟩
  have H3 := mR_up (i := 2) (v := p + 1) (mR_nw (c' := p + 2) H2 (by omega) (by omega)) (k := p) (by omega) (by omega)
  generalize jUp (jNw m2) p 2 (p + 1) = m3 at H3 ⊢
  refine gX4_init_22 (d + 0) p m3 Q ?_
  have H4 := mR_up (i := 3) (v := 0) H3 (k := p) (by omega) (by omega)
  generalize jUp m3 p 3 0 = m4 at H4 ⊢
  refine gX4_init_27 (d + 0) p m4 Q ?_
  rw [H4.1, H4.2.1]
  refine ⟨⟨by omega, K2.1, K2.2⟩, by omega, ?_⟩
  have H5 := mR_up (i := 4) (v := p + 2) (mR_nw (c' := p + 3) H4 (by omega) (by omega)) (k := p) (by omega) (by omega)
  generalize jUp (jNw m4) p 4 (p + 2) = m5 at H5 ⊢
  refine gX4_init_35 (d + 0) p m5 Q ?_
  rw [H5.1, H5.2.1]
  refine ⟨⟨by omega, K3.1, K3.2⟩, by omega, ?_⟩
  have H6 := mR_up (i := 5) (v := p + 3) (mR_nw (c' := p + 4) H5 (by omega) (by omega)) (k := p) (by omega) (by omega)
  generalize jUp (jNw m5) p 5 (p + 3) = m6 at H6 ⊢
  refine gX4_init_43 (d + 0) p m6 Q ?_
  rw [H6.1, H6.2.1]
  refine ⟨⟨by omega, K4.1, K4.2⟩, by omega, ?_⟩
  have H7 := mR_up (i := 6) (v := p + 4) (mR_nw (c' := p + 5) H6 (by omega) (by omega)) (k := p) (by omega) (by omega)
  generalize jUp (jNw m6) p 6 (p + 4) = m7 at H7 ⊢
  refine gX4_init_52 (d + 0) p m7 Q ?_
  rw [H7.1, H7.2.1]
  refine ⟨⟨by omega, K5.1, K5.2⟩, by omega, ?_⟩
  have H8 := mR_up (i := 7) (v := p + 5) (mR_nw (c' := p + 6) H7 (by omega) (by omega)) (k := p) (by omega) (by omega)
  generalize jUp (jNw m7) p 7 (p + 5) = m8 at H8 ⊢
  refine gX4_init_61 (d + 0) p m8 Q ?_
  rw [H8.1, H8.2.1]
  refine ⟨⟨by omega, K6.1, K6.2⟩, by omega, ?_⟩
  have H9 := mR_up (i := 8) (v := p + 6) (mR_nw (c' := p + 7) H8 (by omega) (by omega)) (k := p) (by omega) (by omega)
  generalize jUp (jNw m8) p 8 (p + 6) = m9 at H9 ⊢
  refine gX4_init_70 (d + 0) p m9 Q ?_
  rw [H9.1, H9.2.1]
  refine ⟨⟨by omega, K7.1, K7.2⟩, by omega, ?_⟩
  have H10 := mR_up (i := 9) (v := p + 7) (mR_nw (c' := p + 8) H9 (by omega) (by omega)) (k := p) (by omega) (by omega)
  generalize jUp (jNw m9) p 9 (p + 7) = m10 at H10 ⊢
  refine gX4_init_78 (d + 0) m10 Q ⟨by rw [H10.1, H10.2.1], hQ _ H10⟩
def lX5 (p : Int) (g : List (Int × Int × Int × Int)) : List (Int × Int × Int × Int) := (p, 5, 1, p + 5) :: (p, 4, 1, p + 4) :: (p, 3, 1, p + 3) :: (p, 2, 1, p + 2) :: (p, 1, 1, p + 1) :: (p, 0, 1, 0) :: g
theorem ini_X5 {d : Nat} {p : Int} {m : jM} {x : Int → Int} {g : List (Int × Int × Int × Int)} {Q : Int → jM → Prop} (hp : p ∈ ([75] : List Int)) (H : mR m (p + 1) (p + 6) x g) (hQ : ∀ m', mR m' (p + 6) (p + 6) x (lX5 p g) → Q 0 m') : jK (d + 1) zX5_init [jO 5 p] m Q := by
  have K : ∀ p ∈ ([75] : List Int), 0 ≤ p ∧ (jKd (p + 1) = 21 ∧ jLn (p + 1) = 384) ∧ (jKd (p + 2) = 21 ∧ jLn (p + 2) = 1024) ∧ (jKd (p + 3) = 21 ∧ jLn (p + 3) = 8) ∧ (jKd (p + 4) = 21 ∧ jLn (p + 4) = 8) ∧ (jKd (p + 5) = 20 ∧ jLn (p + 5) = 8) := by decide +kernel
  obtain ⟨hp0, K1, K2, K3, K4, K5⟩ := K p hp
  refine gX5_init (d + 0) p m Q ?_
  refine gX5_init_4 (d + 0) p m Q ?_
  have H1 := mR_up (i := 0) (v := 0) H (k := p) (by omega) (by omega)
  generalize jUp m p 0 0 = m1 at H1 ⊢
  refine gX5_init_9 (d + 0) p m1 Q ?_
  rw [H1.1, H1.2.1]
  refine ⟨⟨by omega, K1.1, K1.2⟩, by omega, ?_⟩
  have H2 := mR_up (i := 1) (v := p + 1) (mR_nw (c' := p + 2) H1 (by omega) (by omega)) (k := p) (by omega) (by omega)
  generalize jUp (jNw m1) p 1 (p + 1) = m2 at H2 ⊢
  refine gX5_init_18 (d + 0) p m2 Q ?_
  rw [H2.1, H2.2.1]
  refine ⟨⟨by omega, K2.1, K2.2⟩, by omega, ?_⟩
  have H3 := mR_up (i := 2) (v := p + 2) (mR_nw (c' := p + 3) H2 (by omega) (by omega)) (k := p) (by omega) (by omega)
  generalize jUp (jNw m2) p 2 (p + 2) = m3 at H3 ⊢
  refine gX5_init_27 (d + 0) p m3 Q ?_
  rw [H3.1, H3.2.1]
  refine ⟨⟨by omega, K3.1, K3.2⟩, by omega, ?_⟩
  have H4 := mR_up (i := 3) (v := p + 3) (mR_nw (c' := p + 4) H3 (by omega) (by omega)) (k := p) (by omega) (by omega)
  generalize jUp (jNw m3) p 3 (p + 3) = m4 at H4 ⊢
  refine gX5_init_35 (d + 0) p m4 Q ?_
  rw [H4.1, H4.2.1]
  refine ⟨⟨by omega, K4.1, K4.2⟩, by omega, ?_⟩
  have H5 := mR_up (i := 4) (v := p + 4) (mR_nw (c' := p + 5) H4 (by omega) (by omega)) (k := p) (by omega) (by omega)
  generalize jUp (jNw m4) p 4 (p + 4) = m5 at H5 ⊢
  refine gX5_init_43 (d + 0) p m5 Q ?_
  rw [H5.1, H5.2.1]
  refine ⟨⟨by omega, K5.1, K5.2⟩, by omega, ?_⟩
  have H6 := mR_up (i := 5) (v := p + 5) (mR_nw (c' := p + 6) H5 (by omega) (by omega)) (k := p) (by omega) (by omega)
  generalize jUp (jNw m5) p 5 (p + 5) = m6 at H6 ⊢
  refine gX5_init_51 (d + 0) m6 Q ⟨by rw [H6.1, H6.2.1], hQ _ H6⟩
def lX6 (p : Int) (g : List (Int × Int × Int × Int)) : List (Int × Int × Int × Int) := (p, 4, 1, p + 3) :: (p, 3, 1, p + 2) :: (p, 2, 1, p + 1) :: (p, 1, 1, 0) :: (p, 0, 1, 0) :: g
theorem ini_X6 {d : Nat} {p : Int} {m : jM} {x : Int → Int} {g : List (Int × Int × Int × Int)} {Q : Int → jM → Prop} (hp : p ∈ ([7, 11, 15, 19, 29, 33, 37, 41, 47] : List Int)) (H : mR m (p + 1) (p + 4) x g) (hQ : ∀ m', mR m' (p + 4) (p + 4) x (lX6 p g) → Q 0 m') : jK (d + 1) zX6_init [jO 6 p] m Q := by
  have K : ∀ p ∈ ([7, 11, 15, 19, 29, 33, 37, 41, 47] : List Int), 0 ≤ p ∧ (jKd (p + 1) = 20 ∧ jLn (p + 1) = 40) ∧ (jKd (p + 2) = 20 ∧ jLn (p + 2) = 40) ∧ (jKd (p + 3) = 20 ∧ jLn (p + 3) = 40) := by decide +kernel
  obtain ⟨hp0, K1, K2, K3⟩ := K p hp
  refine gX6_init (d + 0) p m Q ?_
  refine gX6_init_4 (d + 0) p m Q ?_
  have H1 := mR_up (i := 0) (v := 0) H (k := p) (by omega) (by omega)
  generalize jUp m p 0 0 = m1 at H1 ⊢
  refine gX6_init_9 (d + 0) p m1 Q ?_
  have H2 := mR_up (i := 1) (v := 0) H1 (k := p) (by omega) (by omega)
  generalize jUp m1 p 1 0 = m2 at H2 ⊢
  refine gX6_init_14 (d + 0) p m2 Q ?_
  rw [H2.1, H2.2.1]
  refine ⟨⟨by omega, K1.1, K1.2⟩, by omega, ?_⟩
  have H3 := mR_up (i := 2) (v := p + 1) (mR_nw (c' := p + 2) H2 (by omega) (by omega)) (k := p) (by omega) (by omega)
  generalize jUp (jNw m2) p 2 (p + 1) = m3 at H3 ⊢
  refine gX6_init_22 (d + 0) p m3 Q ?_
  rw [H3.1, H3.2.1]
  refine ⟨⟨by omega, K2.1, K2.2⟩, by omega, ?_⟩
  have H4 := mR_up (i := 3) (v := p + 2) (mR_nw (c' := p + 3) H3 (by omega) (by omega)) (k := p) (by omega) (by omega)
  generalize jUp (jNw m3) p 3 (p + 2) = m4 at H4 ⊢
  refine gX6_init_30 (d + 0) p m4 Q ?_
  rw [H4.1, H4.2.1]
  refine ⟨⟨by omega, K3.1, K3.2⟩, by omega, ?_⟩
  have H5 := mR_up (i := 4) (v := p + 3) (mR_nw (c' := p + 4) H4 (by omega) (by omega)) (k := p) (by omega) (by omega)
  generalize jUp (jNw m4) p 4 (p + 3) = m5 at H5 ⊢
  refine gX6_init_38 (d + 0) m5 Q ⟨by rw [H5.1, H5.2.1], hQ _ H5⟩
def lX7 (p : Int) (g : List (Int × Int × Int × Int)) : List (Int × Int × Int × Int) := (p, 2, 1, p + 1) :: (p, 1, 1, 0) :: (p, 0, 1, (-1)) :: g
theorem ini_X7 {d : Nat} {p : Int} {m : jM} {x : Int → Int} {g : List (Int × Int × Int × Int)} {Q : Int → jM → Prop} (hp : p ∈ ([95, 97, 99, 101] : List Int)) (H : mR m (p + 1) (p + 2) x g) (hQ : ∀ m', mR m' (p + 2) (p + 2) x (lX7 p g) → Q 0 m') : jK (d + 1) zX7_init [jO 7 p] m Q := by
  have K : ∀ p ∈ ([95, 97, 99, 101] : List Int), 0 ≤ p ∧ (jKd (p + 1) = 21 ∧ jLn (p + 1) = 40) := by decide +kernel
  obtain ⟨hp0, K1⟩ := K p hp
  refine gX7_init (d + 0) p m Q ?_
  refine gX7_init_4 (d + 0) p m Q ?_
  have H1 := mR_up (i := 0) (v := (-1)) H (k := p) (by omega) (by omega)
  generalize jUp m p 0 (-1) = m1 at H1 ⊢
  refine gX7_init_9 (d + 0) p m1 Q ?_
  have H2 := mR_up (i := 1) (v := 0) H1 (k := p) (by omega) (by omega)
  generalize jUp m1 p 1 0 = m2 at H2 ⊢
  refine gX7_init_14 (d + 0) p m2 Q ?_
  rw [H2.1, H2.2.1]
  refine ⟨⟨by omega, K1.1, K1.2⟩, by omega, ?_⟩
  have H3 := mR_up (i := 2) (v := p + 1) (mR_nw (c' := p + 2) H2 (by omega) (by omega)) (k := p) (by omega) (by omega)
  generalize jUp (jNw m2) p 2 (p + 1) = m3 at H3 ⊢
  refine gX7_init_22 (d + 0) m3 Q ⟨by rw [H3.1, H3.2.1], hQ _ H3⟩
def lX8 (p : Int) (g : List (Int × Int × Int × Int)) : List (Int × Int × Int × Int) := (p, 8, 1, 0) :: (p, 7, 1, 0) :: (p, 6, 1, 0) :: (p, 5, 1, 0) :: (p, 4, 1, 0) :: (p, 3, 1, 0) :: (p, 2, 1, p + 2) :: lX6 (p + 2) ((p, 1, 1, 0) :: (p, 0, 1, p + 1) :: g)
theorem ini_X8 {d : Nat} {p : Int} {m : jM} {x : Int → Int} {g : List (Int × Int × Int × Int)} {Q : Int → jM → Prop} (hp : p ∈ ([45] : List Int)) (H : mR m (p + 1) (p + 6) x g) (hQ : ∀ m', mR m' (p + 6) (p + 6) x (lX8 p g) → Q 0 m') : jK (d + 2) zX8_init [jO 8 p] m Q := by
  have K : ∀ p ∈ ([45] : List Int), 0 ≤ p ∧ (jKd (p + 1) = 20 ∧ jLn (p + 1) = 60) ∧ jKd (p + 2) = 6 := by decide +kernel
  obtain ⟨hp0, K1, K2⟩ := K p hp
  have M2 : (p + 2) ∈ ([7, 11, 15, 19, 29, 33, 37, 41, 47] : List Int) := (by decide +kernel : ∀ p ∈ ([45] : List Int), (p + 2) ∈ ([7, 11, 15, 19, 29, 33, 37, 41, 47] : List Int)) p hp
  refine gX8_init (d + 1) p m Q ?_
  refine gX8_init_4 (d + 1) p m Q ?_
  rw [H.1, H.2.1]
  refine ⟨⟨by omega, K1.1, K1.2⟩, by omega, ?_⟩
  have H1 := mR_up (i := 0) (v := p + 1) (mR_nw (c' := p + 2) H (by omega) (by omega)) (k := p) (by omega) (by omega)
  generalize jUp (jNw m) p 0 (p + 1) = m1 at H1 ⊢
  refine gX8_init_12 (d + 1) p m1 Q ?_
  have H2 := mR_up (i := 1) (v := 0) H1 (k := p) (by omega) (by omega)
  generalize jUp m1 p 1 0 = m2 at H2 ⊢
  refine gX8_init_17 (d + 1) p m2 Q ?_
  have N3 := mR_nw (c' := p + 3) H2 (by omega) (by omega)
  have J3 := mR_jl (y := zX6_init) (n := 3) N3 (by decide +kernel)
  rw [H2.1, H2.2.1, N3.1, N3.2.1]
  refine ⟨⟨by omega, K2⟩, by omega, ini_X6 (d := d + 0) (p := p + 2) M2 (mR_cg J3 (by omega) (by omega)) (fun o3 O3 => ?_)⟩
  have H3 := mR_up (i := 2) (v := p + 2) (mR_sl (l' := p + 6) (mR_cg (c' := p + 6) (l' := p + 6) O3 (by omega) (by omega))) (k := p) (by omega) (by omega)
  generalize jUp (jUp o3 (-2) (-7) (p + 6)) p 2 (p + 2) = m3 at H3 ⊢
  refine gX8_init_28 (d + 1) p m3 Q ?_
  have H4 := mR_up (i := 3) (v := 0) H3 (k := p) (by omega) (by omega)
  generalize jUp m3 p 3 0 = m4 at H4 ⊢
  refine gX8_init_33 (d + 1) p m4 Q ?_
  have H5 := mR_up (i := 4) (v := 0) H4 (k := p) (by omega) (by omega)
  generalize jUp m4 p 4 0 = m5 at H5 ⊢
  refine gX8_init_38 (d + 1) p m5 Q ?_
  have H6 := mR_up (i := 5) (v := 0) H5 (k := p) (by omega) (by omega)
  generalize jUp m5 p 5 0 = m6 at H6 ⊢
  refine gX8_init_43 (d + 1) p m6 Q ?_
  have H7 := mR_up (i := 6) (v := 0) H6 (k := p) (by omega) (by omega)
  generalize jUp m6 p 6 0 = m7 at H7 ⊢
  refine gX8_init_48 (d + 1) p m7 Q ?_
  have H8 := mR_up (i := 7) (v := 0) H7 (k := p) (by omega) (by omega)
  generalize jUp m7 p 7 0 = m8 at H8 ⊢
  refine gX8_init_53 (d + 1) p m8 Q ?_
  have H9 := mR_up (i := 8) (v := 0) H8 (k := p) (by omega) (by omega)
  generalize jUp m8 p 8 0 = m9 at H9 ⊢
  refine gX8_init_58 (d + 1) m9 Q ⟨by rw [H9.1, H9.2.1], hQ _ H9⟩
def lX9 (p : Int) (g : List (Int × Int × Int × Int)) : List (Int × Int × Int × Int) := (p, 6, 1, (-1)) :: (p, 5, 1, (-1)) :: (p, 4, 1, 0) :: (p, 3, 1, (-1)) :: (p, 2, 1, 0) :: (p, 1, 1, p + 2) :: (p, 0, 1, p + 1) :: g
theorem ini_X9 {d : Nat} {p : Int} {m : jM} {x : Int → Int} {g : List (Int × Int × Int × Int)} {Q : Int → jM → Prop} (hp : p ∈ ([51] : List Int)) (H : mR m (p + 1) (p + 3) x g) (hQ : ∀ m', mR m' (p + 3) (p + 3) x (lX9 p g) → Q 0 m') : jK (d + 1) zX9_init [jO 9 p] m Q := by
  have K : ∀ p ∈ ([51] : List Int), 0 ≤ p ∧ (jKd (p + 1) = 21 ∧ jLn (p + 1) = 160) ∧ (jKd (p + 2) = 20 ∧ jLn (p + 2) = 4) := by decide +kernel
  obtain ⟨hp0, K1, K2⟩ := K p hp
  refine gX9_init (d + 0) p m Q ?_
  refine gX9_init_4 (d + 0) p m Q ?_
  rw [H.1, H.2.1]
  refine ⟨⟨by omega, K1.1, K1.2⟩, by omega, ?_⟩
  have H1 := mR_up (i := 0) (v := p + 1) (mR_nw (c' := p + 2) H (by omega) (by omega)) (k := p) (by omega) (by omega)
  generalize jUp (jNw m) p 0 (p + 1) = m1 at H1 ⊢
  refine gX9_init_13 (d + 0) p m1 Q ?_
  rw [H1.1, H1.2.1]
  refine ⟨⟨by omega, K2.1, K2.2⟩, by omega, ?_⟩
  have H2 := mR_up (i := 1) (v := p + 2) (mR_nw (c' := p + 3) H1 (by omega) (by omega)) (k := p) (by omega) (by omega)
  generalize jUp (jNw m1) p 1 (p + 2) = m2 at H2 ⊢
  refine gX9_init_20 (d + 0) p m2 Q ?_
  have H3 := mR_up (i := 2) (v := 0) H2 (k := p) (by omega) (by omega)
  generalize jUp m2 p 2 0 = m3 at H3 ⊢
  refine gX9_init_25 (d + 0) p m3 Q ?_
  have H4 := mR_up (i := 3) (v := (-1)) H3 (k := p) (by omega) (by omega)
  generalize jUp m3 p 3 (-1) = m4 at H4 ⊢
  refine gX9_init_30 (d + 0) p m4 Q ?_
  have H5 := mR_up (i := 4) (v := 0) H4 (k := p) (by omega) (by omega)
  generalize jUp m4 p 4 0 = m5 at H5 ⊢
  refine gX9_init_35 (d + 0) p m5 Q ?_
  have H6 := mR_up (i := 5) (v := (-1)) H5 (k := p) (by omega) (by omega)
  generalize jUp m5 p 5 (-1) = m6 at H6 ⊢
  refine gX9_init_40 (d + 0) p m6 Q ?_
  have H7 := mR_up (i := 6) (v := (-1)) H6 (k := p) (by omega) (by omega)
  generalize jUp m6 p 6 (-1) = m7 at H7 ⊢
  refine gX9_init_45 (d + 0) m7 Q ⟨by rw [H7.1, H7.2.1], hQ _ H7⟩
def lX0_1 (g : List (Int × Int × Int × Int)) : List (Int × Int × Int × Int) := (1 + 4, 3, 1, 1 + 18) :: lX6 (1 + 18) ((1 + 4, 2, 1, 1 + 14) :: lX6 (1 + 14) ((1 + 4, 1, 1, 1 + 10) :: lX6 (1 + 10) ((1 + 4, 0, 1, 1 + 6) :: lX6 (1 + 6) ((1 + 2, 0, 64, -1) :: (1, 6, 1, 1 + 5) :: (1, 5, 1, 1 + 4) :: (1, 4, 1, 1 + 3) :: (1, 3, 1, 1 + 2) :: (1, 2, 1, 1 + 1) :: (1, 1, 1, 0) :: (1, 0, 1, 0) :: g))))
set_option maxHeartbeats 2000000 in
theorem ini_X0_1 {d : Nat} {m : jM} {x : Int → Int} {g : List (Int × Int × Int × Int)} {Q : Int → jM → Prop} (H : mR m (1 + 1) (1 + 22) x g) (hQ : ∀ m', mR m' (1 + 22) (1 + 22) x (lX0_1 g) → Q 0 m') : jK (d + 2) zX0_init [jO 0 1] m Q := by
  have K1 : (jKd (1 + 1) = 20 ∧ jLn (1 + 1) = 48) := by decide +kernel
  have K2 : (jKd (1 + 2) = 21 ∧ jLn (1 + 2) = 64) := by decide +kernel
  have K3 : (jKd (1 + 3) = 20 ∧ jLn (1 + 3) = 64) := by decide +kernel
  have K4 : (jKd (1 + 4) = 22 ∧ jLn (1 + 4) = 4) := by decide +kernel
  have K5 : (jKd (1 + 5) = 20 ∧ jLn (1 + 5) = 4) := by decide +kernel
  have K6 : jKd (1 + 6) = 6 := by decide +kernel
  have K7 : jKd (1 + 10) = 6 := by decide +kernel
  have K8 : jKd (1 + 14) = 6 := by decide +kernel
  have K9 : jKd (1 + 18) = 6 := by decide +kernel
  have M6 : (1 + 6) ∈ ([7, 11, 15, 19, 29, 33, 37, 41, 47] : List Int) := by decide +kernel
  have M7 : (1 + 10) ∈ ([7, 11, 15, 19, 29, 33, 37, 41, 47] : List Int) := by decide +kernel
  have M8 : (1 + 14) ∈ ([7, 11, 15, 19, 29, 33, 37, 41, 47] : List Int) := by decide +kernel
  have M9 : (1 + 18) ∈ ([7, 11, 15, 19, 29, 33, 37, 41, 47] : List Int) := by decide +kernel
  refine gX0_init (d + 1) 1 m Q ?_
  refine gX0_init_4 (d + 1) 1 m Q ?_
  have H1 := mR_up (i := 0) (v := 0) H (k := 1) (by omega) (by omega)
  generalize jUp m 1 0 0 = m1 at H1 ⊢
  refine gX0_init_9 (d + 1) 1 m1 Q ?_
  have H2 := mR_up (i := 1) (v := 0) H1 (k := 1) (by omega) (by omega)
  generalize jUp m1 1 1 0 = m2 at H2 ⊢
  refine gX0_init_14 (d + 1) 1 m2 Q ?_
  rw [H2.1, H2.2.1]
  refine ⟨⟨by omega, K1.1, K1.2⟩, by omega, ?_⟩
  have H3 := mR_up (i := 2) (v := 1 + 1) (mR_nw (c' := 1 + 2) H2 (by omega) (by omega)) (k := 1) (by omega) (by omega)
  generalize jUp (jNw m2) 1 2 (1 + 1) = m3 at H3 ⊢
  refine gX0_init_22 (d + 1) 1 m3 Q ?_
  rw [H3.1, H3.2.1]
  refine ⟨⟨by omega, K2.1, K2.2⟩, by omega, ?_⟩
  have H4 := mR_up (i := 3) (v := 1 + 2) (mR_nw (c' := 1 + 3) H3 (by omega) (by omega)) (k := 1) (by omega) (by omega)
  generalize jUp (jNw m3) 1 3 (1 + 2) = m4 at H4 ⊢
  refine gX0_init_30 (d + 1) 1 m4 Q ?_
  rw [H4.1, H4.2.1]
  refine ⟨⟨by omega, K3.1, K3.2⟩, by omega, ?_⟩
  have H5 := mR_up (i := 4) (v := 1 + 3) (mR_nw (c' := 1 + 4) H4 (by omega) (by omega)) (k := 1) (by omega) (by omega)
  generalize jUp (jNw m4) 1 4 (1 + 3) = m5 at H5 ⊢
  refine gX0_init_38 (d + 1) 1 m5 Q ?_
  rw [H5.1, H5.2.1]
  refine ⟨⟨by omega, K4.1, K4.2⟩, by omega, ?_⟩
  have H6 := mR_up (i := 5) (v := 1 + 4) (mR_nw (c' := 1 + 5) H5 (by omega) (by omega)) (k := 1) (by omega) (by omega)
  generalize jUp (jNw m5) 1 5 (1 + 4) = m6 at H6 ⊢
  refine gX0_init_46 (d + 1) 1 m6 Q ?_
  rw [H6.1, H6.2.1]
  refine ⟨⟨by omega, K5.1, K5.2⟩, by omega, ?_⟩
  have H7 := mR_up (i := 6) (v := 1 + 5) (mR_nw (c' := 1 + 6) H6 (by omega) (by omega)) (k := 1) (by omega) (by omega)
  generalize jUp (jNw m6) 1 6 (1 + 5) = m7 at H7 ⊢
  refine gX0_init_53 (d + 1) 1 m7 Q ⟨(H7.2.2.2.2 1 3 (by omega) (by omega)).trans rfl, s_fillL (d := d + 0) (by omega) ?_⟩
  have H8 := mR_fil (n := 64) (v := -1) H7 (k := 1 + 2) (by omega) (by omega)
  generalize jFil m7 (1 + 2) 64 (-1) = m8 at H8 ⊢
  refine gX0_init_63 (d + 1) 1 m8 Q ?_
  refine gX0_init_65 (d + 1) 1 0 m8 Q ⟨fun _ => ?_, fun h => absurd (by omega) h⟩
  refine gX0_init_70 (d + 1) 1 0 m8 Q ?_
  have N9 := mR_nw (c' := 1 + 7) H8 (by omega) (by omega)
  have J9 := mR_jl (y := zX6_init) (n := 3) N9 (by decide +kernel)
  have V9 : m8 1 5 = 1 + 4 := (H8.2.2.2.2 1 5 (by omega) (by omega)).trans rfl
  rw [H8.1, H8.2.1, N9.1, N9.2.1]
  refine ⟨V9, ⟨by omega, K6⟩, by omega, ini_X6 (d := d + 0) (p := 1 + 6) M6 (mR_cg J9 (by omega) (by omega)) (fun o9 O9 => ⟨by omega, ?_⟩)⟩
  have H9 := mR_up (i := 0) (v := 1 + 6) (mR_sl (l' := 1 + 22) (mR_cg (c' := 1 + 10) (l' := 1 + 10) O9 (by omega) (by omega))) (k := 1 + 4) (by omega) (by omega)
  generalize jUp (jUp o9 (-2) (-7) (1 + 22)) (1 + 4) 0 (1 + 6) = m9 at H9 ⊢
  refine gX0_init_83 (d + 1) 1 0 m9 Q ?_
  rw [show w32 (0 + 1) = 1 from by decide +kernel]
  refine gX0_init_86 (d + 1) 1 1 m9 Q ?_
  refine gX0_init_65 (d + 1) 1 1 m9 Q ⟨fun _ => ?_, fun h => absurd (by omega) h⟩
  refine gX0_init_70 (d + 1) 1 1 m9 Q ?_
  have N10 := mR_nw (c' := 1 + 11) H9 (by omega) (by omega)
  have J10 := mR_jl (y := zX6_init) (n := 3) N10 (by decide +kernel)
  have V10 : m9 1 5 = 1 + 4 := (H9.2.2.2.2 1 5 (by omega) (by omega)).trans rfl
  rw [H9.1, H9.2.1, N10.1, N10.2.1]
  refine ⟨V10, ⟨by omega, K7⟩, by omega, ini_X6 (d := d + 0) (p := 1 + 10) M7 (mR_cg J10 (by omega) (by omega)) (fun o10 O10 => ⟨by omega, ?_⟩)⟩
  have H10 := mR_up (i := 1) (v := 1 + 10) (mR_sl (l' := 1 + 22) (mR_cg (c' := 1 + 14) (l' := 1 + 14) O10 (by omega) (by omega))) (k := 1 + 4) (by omega) (by omega)
  generalize jUp (jUp o10 (-2) (-7) (1 + 22)) (1 + 4) 1 (1 + 10) = m10 at H10 ⊢
  refine gX0_init_83 (d + 1) 1 1 m10 Q ?_
  rw [show w32 (1 + 1) = 2 from by decide +kernel]
  refine gX0_init_86 (d + 1) 1 2 m10 Q ?_
  refine gX0_init_65 (d + 1) 1 2 m10 Q ⟨fun _ => ?_, fun h => absurd (by omega) h⟩
  refine gX0_init_70 (d + 1) 1 2 m10 Q ?_
  have N11 := mR_nw (c' := 1 + 15) H10 (by omega) (by omega)
  have J11 := mR_jl (y := zX6_init) (n := 3) N11 (by decide +kernel)
  have V11 : m10 1 5 = 1 + 4 := (H10.2.2.2.2 1 5 (by omega) (by omega)).trans rfl
  rw [H10.1, H10.2.1, N11.1, N11.2.1]
  refine ⟨V11, ⟨by omega, K8⟩, by omega, ini_X6 (d := d + 0) (p := 1 + 14) M8 (mR_cg J11 (by omega) (by omega)) (fun o11 O11 => ⟨by omega, ?_⟩)⟩
  have H11 := mR_up (i := 2) (v := 1 + 14) (mR_sl (l' := 1 + 22) (mR_cg (c' := 1 + 18) (l' := 1 + 18) O11 (by omega) (by omega))) (k := 1 + 4) (by omega) (by omega)
  generalize jUp (jUp o11 (-2) (-7) (1 + 22)) (1 + 4) 2 (1 + 14) = m11 at H11 ⊢
  refine gX0_init_83 (d + 1) 1 2 m11 Q ?_
  rw [show w32 (2 + 1) = 3 from by decide +kernel]
  refine gX0_init_86 (d + 1) 1 3 m11 Q ?_
  refine gX0_init_65 (d + 1) 1 3 m11 Q ⟨fun _ => ?_, fun h => absurd (by omega) h⟩
  refine gX0_init_70 (d + 1) 1 3 m11 Q ?_
  have N12 := mR_nw (c' := 1 + 19) H11 (by omega) (by omega)
  have J12 := mR_jl (y := zX6_init) (n := 3) N12 (by decide +kernel)
  have V12 : m11 1 5 = 1 + 4 := (H11.2.2.2.2 1 5 (by omega) (by omega)).trans rfl
  rw [H11.1, H11.2.1, N12.1, N12.2.1]
  refine ⟨V12, ⟨by omega, K9⟩, by omega, ini_X6 (d := d + 0) (p := 1 + 18) M9 (mR_cg J12 (by omega) (by omega)) (fun o12 O12 => ⟨by omega, ?_⟩)⟩
  have H12 := mR_up (i := 3) (v := 1 + 18) (mR_sl (l' := 1 + 22) (mR_cg (c' := 1 + 22) (l' := 1 + 22) O12 (by omega) (by omega))) (k := 1 + 4) (by omega) (by omega)
  generalize jUp (jUp o12 (-2) (-7) (1 + 22)) (1 + 4) 3 (1 + 18) = m12 at H12 ⊢
  refine gX0_init_83 (d + 1) 1 3 m12 Q ?_
  rw [show w32 (3 + 1) = 4 from by decide +kernel]
  refine gX0_init_86 (d + 1) 1 4 m12 Q ?_
  refine gX0_init_65 (d + 1) 1 4 m12 Q ⟨fun h => absurd h (by omega), fun _ => ?_⟩
  refine gX0_init_89 (d + 1) m12 Q ⟨by rw [H12.1, H12.2.1], hQ _ H12⟩
def lX0_23 (g : List (Int × Int × Int × Int)) : List (Int × Int × Int × Int) := (23 + 4, 3, 1, 23 + 18) :: lX6 (23 + 18) ((23 + 4, 2, 1, 23 + 14) :: lX6 (23 + 14) ((23 + 4, 1, 1, 23 + 10) :: lX6 (23 + 10) ((23 + 4, 0, 1, 23 + 6) :: lX6 (23 + 6) ((23 + 2, 0, 64, -1) :: (23, 6, 1, 23 + 5) :: (23, 5, 1, 23 + 4) :: (23, 4, 1, 23 + 3) :: (23, 3, 1, 23 + 2) :: (23, 2, 1, 23 + 1) :: (23, 1, 1, 0) :: (23, 0, 1, 0) :: g))))
set_option maxHeartbeats 2000000 in
theorem ini_X0_23 {d : Nat} {m : jM} {x : Int → Int} {g : List (Int × Int × Int × Int)} {Q : Int → jM → Prop} (H : mR m (23 + 1) (23 + 22) x g) (hQ : ∀ m', mR m' (23 + 22) (23 + 22) x (lX0_23 g) → Q 0 m') : jK (d + 2) zX0_init [jO 0 23] m Q := by
  have K1 : (jKd (23 + 1) = 20 ∧ jLn (23 + 1) = 48) := by decide +kernel
  have K2 : (jKd (23 + 2) = 21 ∧ jLn (23 + 2) = 64) := by decide +kernel
  have K3 : (jKd (23 + 3) = 20 ∧ jLn (23 + 3) = 64) := by decide +kernel
  have K4 : (jKd (23 + 4) = 22 ∧ jLn (23 + 4) = 4) := by decide +kernel
  have K5 : (jKd (23 + 5) = 20 ∧ jLn (23 + 5) = 4) := by decide +kernel
  have K6 : jKd (23 + 6) = 6 := by decide +kernel
  have K7 : jKd (23 + 10) = 6 := by decide +kernel
  have K8 : jKd (23 + 14) = 6 := by decide +kernel
  have K9 : jKd (23 + 18) = 6 := by decide +kernel
  have M6 : (23 + 6) ∈ ([7, 11, 15, 19, 29, 33, 37, 41, 47] : List Int) := by decide +kernel
  have M7 : (23 + 10) ∈ ([7, 11, 15, 19, 29, 33, 37, 41, 47] : List Int) := by decide +kernel
  have M8 : (23 + 14) ∈ ([7, 11, 15, 19, 29, 33, 37, 41, 47] : List Int) := by decide +kernel
  have M9 : (23 + 18) ∈ ([7, 11, 15, 19, 29, 33, 37, 41, 47] : List Int) := by decide +kernel
  refine gX0_init (d + 1) 23 m Q ?_
  refine gX0_init_4 (d + 1) 23 m Q ?_
  have H1 := mR_up (i := 0) (v := 0) H (k := 23) (by omega) (by omega)
  generalize jUp m 23 0 0 = m1 at H1 ⊢
  refine gX0_init_9 (d + 1) 23 m1 Q ?_
  have H2 := mR_up (i := 1) (v := 0) H1 (k := 23) (by omega) (by omega)
  generalize jUp m1 23 1 0 = m2 at H2 ⊢
  refine gX0_init_14 (d + 1) 23 m2 Q ?_
  rw [H2.1, H2.2.1]
  refine ⟨⟨by omega, K1.1, K1.2⟩, by omega, ?_⟩
  have H3 := mR_up (i := 2) (v := 23 + 1) (mR_nw (c' := 23 + 2) H2 (by omega) (by omega)) (k := 23) (by omega) (by omega)
  generalize jUp (jNw m2) 23 2 (23 + 1) = m3 at H3 ⊢
  refine gX0_init_22 (d + 1) 23 m3 Q ?_
  rw [H3.1, H3.2.1]
  refine ⟨⟨by omega, K2.1, K2.2⟩, by omega, ?_⟩
  have H4 := mR_up (i := 3) (v := 23 + 2) (mR_nw (c' := 23 + 3) H3 (by omega) (by omega)) (k := 23) (by omega) (by omega)
  generalize jUp (jNw m3) 23 3 (23 + 2) = m4 at H4 ⊢
  refine gX0_init_30 (d + 1) 23 m4 Q ?_
  rw [H4.1, H4.2.1]
  refine ⟨⟨by omega, K3.1, K3.2⟩, by omega, ?_⟩
  have H5 := mR_up (i := 4) (v := 23 + 3) (mR_nw (c' := 23 + 4) H4 (by omega) (by omega)) (k := 23) (by omega) (by omega)
  generalize jUp (jNw m4) 23 4 (23 + 3) = m5 at H5 ⊢
  refine gX0_init_38 (d + 1) 23 m5 Q ?_
  rw [H5.1, H5.2.1]
  refine ⟨⟨by omega, K4.1, K4.2⟩, by omega, ?_⟩
  have H6 := mR_up (i := 5) (v := 23 + 4) (mR_nw (c' := 23 + 5) H5 (by omega) (by omega)) (k := 23) (by omega) (by omega)
  generalize jUp (jNw m5) 23 5 (23 + 4) = m6 at H6 ⊢
  refine gX0_init_46 (d + 1) 23 m6 Q ?_
  rw [H6.1, H6.2.1]
  refine ⟨⟨by omega, K5.1, K5.2⟩, by omega, ?_⟩
  have H7 := mR_up (i := 6) (v := 23 + 5) (mR_nw (c' := 23 + 6) H6 (by omega) (by omega)) (k := 23) (by omega) (by omega)
  generalize jUp (jNw m6) 23 6 (23 + 5) = m7 at H7 ⊢
  refine gX0_init_53 (d + 1) 23 m7 Q ⟨(H7.2.2.2.2 23 3 (by omega) (by omega)).trans rfl, s_fillL (d := d + 0) (by omega) ?_⟩
  have H8 := mR_fil (n := 64) (v := -1) H7 (k := 23 + 2) (by omega) (by omega)
  generalize jFil m7 (23 + 2) 64 (-1) = m8 at H8 ⊢
  refine gX0_init_63 (d + 1) 23 m8 Q ?_
  refine gX0_init_65 (d + 1) 23 0 m8 Q ⟨fun _ => ?_, fun h => absurd (by omega) h⟩
  refine gX0_init_70 (d + 1) 23 0 m8 Q ?_
  have N9 := mR_nw (c' := 23 + 7) H8 (by omega) (by omega)
  have J9 := mR_jl (y := zX6_init) (n := 3) N9 (by decide +kernel)
  have V9 : m8 23 5 = 23 + 4 := (H8.2.2.2.2 23 5 (by omega) (by omega)).trans rfl
  rw [H8.1, H8.2.1, N9.1, N9.2.1]
  refine ⟨V9, ⟨by omega, K6⟩, by omega, ini_X6 (d := d + 0) (p := 23 + 6) M6 (mR_cg J9 (by omega) (by omega)) (fun o9 O9 => ⟨by omega, ?_⟩)⟩
  have H9 := mR_up (i := 0) (v := 23 + 6) (mR_sl (l' := 23 + 22) (mR_cg (c' := 23 + 10) (l' := 23 + 10) O9 (by omega) (by omega))) (k := 23 + 4) (by omega) (by omega)
  generalize jUp (jUp o9 (-2) (-7) (23 + 22)) (23 + 4) 0 (23 + 6) = m9 at H9 ⊢
  refine gX0_init_83 (d + 1) 23 0 m9 Q ?_
  rw [show w32 (0 + 1) = 1 from by decide +kernel]
  refine gX0_init_86 (d + 1) 23 1 m9 Q ?_
  refine gX0_init_65 (d + 1) 23 1 m9 Q ⟨fun _ => ?_, fun h => absurd (by omega) h⟩
  refine gX0_init_70 (d + 1) 23 1 m9 Q ?_
  have N10 := mR_nw (c' := 23 + 11) H9 (by omega) (by omega)
  have J10 := mR_jl (y := zX6_init) (n := 3) N10 (by decide +kernel)
  have V10 : m9 23 5 = 23 + 4 := (H9.2.2.2.2 23 5 (by omega) (by omega)).trans rfl
  rw [H9.1, H9.2.1, N10.1, N10.2.1]
  refine ⟨V10, ⟨by omega, K7⟩, by omega, ini_X6 (d := d + 0) (p := 23 + 10) M7 (mR_cg J10 (by omega) (by omega)) (fun o10 O10 => ⟨by omega, ?_⟩)⟩
  have H10 := mR_up (i := 1) (v := 23 + 10) (mR_sl (l' := 23 + 22) (mR_cg (c' := 23 + 14) (l' := 23 + 14) O10 (by omega) (by omega))) (k := 23 + 4) (by omega) (by omega)
  generalize jUp (jUp o10 (-2) (-7) (23 + 22)) (23 + 4) 1 (23 + 10) = m10 at H10 ⊢
  refine gX0_init_83 (d + 1) 23 1 m10 Q ?_
  rw [show w32 (1 + 1) = 2 from by decide +kernel]
  refine gX0_init_86 (d + 1) 23 2 m10 Q ?_
  refine gX0_init_65 (d + 1) 23 2 m10 Q ⟨fun _ => ?_, fun h => absurd (by omega) h⟩
  refine gX0_init_70 (d + 1) 23 2 m10 Q ?_
  have N11 := mR_nw (c' := 23 + 15) H10 (by omega) (by omega)
  have J11 := mR_jl (y := zX6_init) (n := 3) N11 (by decide +kernel)
  have V11 : m10 23 5 = 23 + 4 := (H10.2.2.2.2 23 5 (by omega) (by omega)).trans rfl
  rw [H10.1, H10.2.1, N11.1, N11.2.1]
  refine ⟨V11, ⟨by omega, K8⟩, by omega, ini_X6 (d := d + 0) (p := 23 + 14) M8 (mR_cg J11 (by omega) (by omega)) (fun o11 O11 => ⟨by omega, ?_⟩)⟩
  have H11 := mR_up (i := 2) (v := 23 + 14) (mR_sl (l' := 23 + 22) (mR_cg (c' := 23 + 18) (l' := 23 + 18) O11 (by omega) (by omega))) (k := 23 + 4) (by omega) (by omega)
  generalize jUp (jUp o11 (-2) (-7) (23 + 22)) (23 + 4) 2 (23 + 14) = m11 at H11 ⊢
  refine gX0_init_83 (d + 1) 23 2 m11 Q ?_
  rw [show w32 (2 + 1) = 3 from by decide +kernel]
  refine gX0_init_86 (d + 1) 23 3 m11 Q ?_
  refine gX0_init_65 (d + 1) 23 3 m11 Q ⟨fun _ => ?_, fun h => absurd (by omega) h⟩
  refine gX0_init_70 (d + 1) 23 3 m11 Q ?_
  have N12 := mR_nw (c' := 23 + 19) H11 (by omega) (by omega)
  have J12 := mR_jl (y := zX6_init) (n := 3) N12 (by decide +kernel)
  have V12 : m11 23 5 = 23 + 4 := (H11.2.2.2.2 23 5 (by omega) (by omega)).trans rfl
  rw [H11.1, H11.2.1, N12.1, N12.2.1]
  refine ⟨V12, ⟨by omega, K9⟩, by omega, ini_X6 (d := d + 0) (p := 23 + 18) M9 (mR_cg J12 (by omega) (by omega)) (fun o12 O12 => ⟨by omega, ?_⟩)⟩
  have H12 := mR_up (i := 3) (v := 23 + 18) (mR_sl (l' := 23 + 22) (mR_cg (c' := 23 + 22) (l' := 23 + 22) O12 (by omega) (by omega))) (k := 23 + 4) (by omega) (by omega)
  generalize jUp (jUp o12 (-2) (-7) (23 + 22)) (23 + 4) 3 (23 + 18) = m12 at H12 ⊢
  refine gX0_init_83 (d + 1) 23 3 m12 Q ?_
  rw [show w32 (3 + 1) = 4 from by decide +kernel]
  refine gX0_init_86 (d + 1) 23 4 m12 Q ?_
  refine gX0_init_65 (d + 1) 23 4 m12 Q ⟨fun h => absurd h (by omega), fun _ => ?_⟩
  refine gX0_init_89 (d + 1) m12 Q ⟨by rw [H12.1, H12.2.1], hQ _ H12⟩

/-! THE LAW -/
theorem in32_u {x : Int} (h : in32 x) : x ≤ 2147483647 := h.2
theorem law_loop {d : Nat} {n0 : Int} {ρ : Int → Int} (hd : 900 ≤ d) (hn : 0 ≤ n0 ∧ n0 ≤ 3072) (hρ : ρ (-7) = 160) (hi : ∀ j : Int, 0 ≤ j → in32 (ρ j)) : ∀ (k : Nat) (x3 : Int) (m : jM), 0 ≤ x3 → x3 ≤ 4000 → n0 ≤ x3 + 6 * k → Inv m → jFull m → m (-2) = ρ → aL_law_18 d n0 (-2) 0 103 x3 m (fun v _ => v = 1) := by
  intro k
  induction k with
  | zero =>
    intro x3 m x0 xk xn I F R
    refine gL_law_18 d n0 (-2) 0 103 x3 m _ ⟨fun _ => ⟨by rw [F.1, R, hρ], rfl⟩, fun h => ?_⟩
    rw [w32_id (by omega) (by omega)] at h
    exact absurd (show n0 - 6 < x3 by omega) h
  | succ k ih =>
    intro x3 m x0 xk xn I F R
    refine gL_law_18 d n0 (-2) 0 103 x3 m _ ⟨fun _ => ⟨by rw [F.1, R, hρ], rfl⟩, fun h => ?_⟩
    rw [w32_id (by omega) (by omega)] at h
    have hV : ∀ j : Int, 0 ≤ j → in32 (m (-2) j) := fun j hj => by rw [R]; exact hi j hj
    have r1 : 0 ≤ w32 (x3 + 1) ∧ w32 (x3 + 1) < n0 := by rw [w32_id (by omega) (by omega)]; omega
    have r2 : 0 ≤ w32 (x3 + 2) ∧ w32 (x3 + 2) < n0 := by rw [w32_id (by omega) (by omega)]; omega
    have r3 : 0 ≤ w32 (x3 + 3) ∧ w32 (x3 + 3) < n0 := by rw [w32_id (by omega) (by omega)]; omega
    have r4 : 0 ≤ w32 (x3 + 4) ∧ w32 (x3 + 4) < n0 := by rw [w32_id (by omega) (by omega)]; omega
    have r5 : 0 ≤ w32 (x3 + 5) ∧ w32 (x3 + 5) < n0 := by rw [w32_id (by omega) (by omega)]; omega
    have nxt : ∀ m2 : jM, Inv m2 → jFull m2 → m2 (-2) = ρ → aL_law_18 d n0 (-2) 0 103 (w32 (x3 + 6)) m2 (fun v _ => v = 1) := fun m2 I2 F2 R2 => by
      rw [w32_id (by omega) (by omega)]
      exact ih (x3 + 6) m2 (by omega) (by omega) (by omega) I2 F2 R2
    have fin : ∀ {z : Nat} {as : List jV} {m1 : jM} {v1 : Int} {B : jM → Prop}, jK 900 z as m1 (fun v' m2 => v1 = v' ∧ Inv m2 ∧ ∀ q, q < 0 → m2 q = m q) → jK d z as m1 (fun v2 m2 => jFull m2 → (v1 = v2 → aL_law_18 d n0 (-2) 0 103 (w32 (x3 + 6)) m2 (fun v _ => v = 1)) ∧ (¬ v1 = v2 → B m2)) := fun {z as m1 v1 B} g => jK_deep hd (jK_mono (fun v2 m2 g2 f2 => ⟨fun _ => nxt m2 g2.2.1 f2 ((g2.2.2 (-2) (by omega)).trans R), fun h => absurd g2.1 h⟩) g)
    refine ⟨by omega, ?_, ?_, ?_, ?_, ?_, ?_, ?_, ?_, ?_, ?_, ?_, ?_, ?_, ?_, ?_, ?_, ?_, ?_, ?_, ?_, ?_, ?_, ?_, ?_, ?_, ?_, ?_, ?_, ?_, ?_, ?_, ?_, ?_, ?_, ?_, ?_, fun _ => nxt m I F R, trivial⟩
    · intro _
      refine ⟨r1, r2, r3, F, jK_deep hd (jK_mono ?_ (st_here I _ _ _))⟩
      intro v1 m1 g f1
      refine ⟨r1, r2, r3, f1, ?_⟩
      rw [g.1 (-2) (by omega)]
      exact fin g.2
    · intro _
      refine ⟨r1, r2, r3, r4, F, jK_deep hd (jK_mono ?_ (st_trait I _ _ _ _))⟩
      intro v1 m1 g f1
      refine ⟨r1, r2, r3, r4, f1, ?_⟩
      rw [g.1 (-2) (by omega)]
      exact fin g.2
    · intro _
      refine ⟨r1, r2, r3, r4, F, jK_deep hd (jK_mono ?_ (st_tell I _ _ _))⟩
      intro v1 m1 g f1
      refine ⟨r1, r2, r3, r4, f1, ?_⟩
      rw [g.1 (-2) (by omega)]
      exact fin g.2
    · intro _
      refine ⟨r1, r2, F, jK_deep hd (jK_mono ?_ (st_burden I _ _))⟩
      intro v1 m1 g f1
      refine ⟨r1, r2, f1, ?_⟩
      rw [g.1 (-2) (by omega)]
      exact fin g.2
    · intro _
      refine ⟨r1, r2, r3, F, jK_deep hd (jK_mono ?_ (st_mark I _ _ _))⟩
      intro v1 m1 g f1
      refine ⟨r1, r2, r3, f1, ?_⟩
      rw [g.1 (-2) (by omega)]
      exact fin g.2
    · intro _
      refine ⟨r1, r2, F, jK_deep hd (jK_mono ?_ (st_open I _ _))⟩
      intro v1 m1 g f1
      refine ⟨r1, r2, f1, ?_⟩
      rw [g.1 (-2) (by omega)]
      exact fin g.2
    · intro _
      refine ⟨r1, F, jK_deep hd (jK_mono ?_ (st_feed I _))⟩
      intro v1 m1 g f1
      refine ⟨r1, f1, ?_⟩
      rw [g.1 (-2) (by omega)]
      exact fin g.2
    · intro _
      refine ⟨r1, F, jK_deep hd (jK_mono ?_ (st_text I _))⟩
      intro v1 m1 g f1
      refine ⟨r1, f1, ?_⟩
      rw [g.1 (-2) (by omega)]
      exact fin g.2
    · intro _
      refine ⟨r1, F, jK_deep hd (jK_mono ?_ (st_empty I _))⟩
      intro v1 m1 g f1
      refine ⟨r1, f1, ?_⟩
      rw [g.1 (-2) (by omega)]
      exact fin g.2
    · intro _
      refine ⟨r1, r2, F, jK_deep hd (jK_mono ?_ (st_told I _ _))⟩
      intro v1 m1 g f1
      refine ⟨r1, r2, f1, ?_⟩
      rw [g.1 (-2) (by omega)]
      exact fin g.2
    · intro _
      refine ⟨r1, r2, r3, F, jK_deep hd (jK_mono ?_ (st_value I _ _ _))⟩
      intro v1 m1 g f1
      refine ⟨r1, r2, r3, f1, ?_⟩
      rw [g.1 (-2) (by omega)]
      exact fin g.2
    · intro _
      refine ⟨r1, r2, r3, F, jK_deep hd (jK_mono ?_ (st_why I _ _ _))⟩
      intro v1 m1 g f1
      refine ⟨r1, r2, r3, f1, ?_⟩
      rw [g.1 (-2) (by omega)]
      exact fin g.2
    · intro _
      refine ⟨F, jK_deep hd (jK_mono ?_ (st_solve I))⟩
      intro v1 m1 g f1
      refine ⟨f1, ?_⟩
      exact fin g.2
    · intro _
      refine ⟨r1, r2, F, jK_deep hd (jK_mono ?_ (st_round I _ _))⟩
      intro v1 m1 g f1
      refine ⟨r1, r2, f1, ?_⟩
      rw [g.1 (-2) (by omega)]
      exact fin g.2
    · intro _
      refine ⟨r1, r2, r3, F, jK_deep hd (jK_mono ?_ (st_price I _ _ _))⟩
      intro v1 m1 g f1
      refine ⟨r1, r2, r3, f1, ?_⟩
      rw [g.1 (-2) (by omega)]
      exact fin g.2
    · intro _
      refine ⟨F, jK_deep hd (jK_mono ?_ (st_total I))⟩
      intro v1 m1 g f1
      refine ⟨f1, ?_⟩
      exact fin g.2
    · intro _
      refine ⟨F, jK_deep hd (jK_mono ?_ (st_many I))⟩
      intro v1 m1 g f1
      refine ⟨f1, ?_⟩
      exact fin g.2
    · intro _
      refine ⟨r1, r2, F, jK_deep hd (jK_mono ?_ (st_best I _ _ (hV _ r1.1).2))⟩
      intro v1 m1 g f1
      refine ⟨r1, r2, f1, ?_⟩
      rw [g.1 (-2) (by omega)]
      exact fin g.2
    · intro _
      refine ⟨r1, r2, F, jK_deep hd (jK_mono ?_ (st_kind I _ _))⟩
      intro v1 m1 g f1
      refine ⟨r1, r2, f1, ?_⟩
      rw [g.1 (-2) (by omega)]
      exact fin g.2
    · intro _
      refine ⟨r1, r2, r3, F, jK_deep hd (jK_mono ?_ (st_room I _ _ _))⟩
      intro v1 m1 g f1
      refine ⟨r1, r2, r3, f1, ?_⟩
      rw [g.1 (-2) (by omega)]
      exact fin g.2
    · intro _
      refine ⟨r1, r2, F, jK_deep hd (jK_mono ?_ (st_next I _ _))⟩
      intro v1 m1 g f1
      refine ⟨r1, r2, f1, ?_⟩
      rw [g.1 (-2) (by omega)]
      exact fin g.2
    · intro _
      refine ⟨r1, F, jK_deep hd (jK_mono ?_ (st_fair I _))⟩
      intro v1 m1 g f1
      refine ⟨r1, f1, ?_⟩
      rw [g.1 (-2) (by omega)]
      exact fin g.2
    · intro _
      refine ⟨r1, F, jK_deep hd (jK_mono ?_ (st_days I _))⟩
      intro v1 m1 g f1
      refine ⟨r1, f1, ?_⟩
      rw [g.1 (-2) (by omega)]
      exact fin g.2
    · intro _
      refine ⟨r1, r2, F, jK_deep hd (jK_mono ?_ (st_day I _ _))⟩
      intro v1 m1 g f1
      refine ⟨r1, r2, f1, ?_⟩
      rw [g.1 (-2) (by omega)]
      exact fin g.2
    · intro _
      refine ⟨r1, F, jK_deep hd (jK_mono ?_ (st_lack I _))⟩
      intro v1 m1 g f1
      refine ⟨r1, f1, ?_⟩
      rw [g.1 (-2) (by omega)]
      exact fin g.2
    · intro _
      refine ⟨r1, r2, F, jK_deep hd (jK_mono ?_ (st_without I _ _))⟩
      intro v1 m1 g f1
      refine ⟨r1, r2, f1, ?_⟩
      rw [g.1 (-2) (by omega)]
      exact fin g.2
    · intro _
      refine ⟨r1, r2, F, jK_deep hd (jK_mono ?_ (st_tells I _ _))⟩
      intro v1 m1 g f1
      refine ⟨r1, r2, f1, ?_⟩
      rw [g.1 (-2) (by omega)]
      exact fin g.2
    · intro _
      refine ⟨r1, r2, F, jK_deep hd (jK_mono ?_ (st_film I (hV _ r2.1)))⟩
      intro v1 m1 g f1
      refine ⟨r1, r2, f1, ?_⟩
      rw [g.1 (-2) (by omega)]
      exact fin g.2
    · intro _
      refine ⟨F, jK_deep hd (jK_mono ?_ (st_image I))⟩
      intro v1 m1 g f1
      refine ⟨f1, ?_⟩
      exact fin g.2
    · intro _
      refine ⟨F, jK_deep hd (jK_mono ?_ (st_back I))⟩
      intro v1 m1 g f1
      refine ⟨f1, ?_⟩
      exact fin g.2
    · intro _
      refine ⟨r1, F, jK_deep hd (jK_mono ?_ (st_count I _))⟩
      intro v1 m1 g f1
      refine ⟨r1, f1, ?_⟩
      rw [g.1 (-2) (by omega)]
      exact fin g.2
    · intro _
      refine ⟨r1, r2, r3, F, jK_deep hd (jK_mono ?_ (st_sheet I _ _ _))⟩
      intro v1 m1 g f1
      refine ⟨r1, r2, r3, f1, ?_⟩
      rw [g.1 (-2) (by omega)]
      exact fin g.2
    · intro _
      refine ⟨r1, r2, r3, r4, F, jK_deep hd (jK_mono ?_ (st_put I _ _ _))⟩
      intro v1 m1 g f1
      refine ⟨r1, r2, r3, r4, f1, ?_⟩
      rw [g.1 (-2) (by omega)]
      exact fin g.2
    · intro _
      refine ⟨r1, r2, F, jK_deep hd (jK_mono ?_ (st_item I _ _))⟩
      intro v1 m1 g f1
      refine ⟨r1, r2, f1, ?_⟩
      rw [g.1 (-2) (by omega)]
      exact fin g.2
    · intro _
      refine ⟨r1, r2, r3, r4, r5, F, jK_deep hd (jK_mono ?_ (st_copy I (hV _ r5.1)))⟩
      intro v1 m1 g f1
      refine ⟨r1, r2, r3, r4, r5, f1, ?_⟩
      rw [g.1 (-2) (by omega)]
      exact fin g.2
    · intro _
      refine ⟨r1, r2, r3, r4, r5, F, jK_deep hd (jK_mono ?_ (st_lay I (hV _ r5.1) (hV _ r4.1)))⟩
      intro v1 m1 g f1
      refine ⟨r1, r2, r3, r4, r5, f1, ?_⟩
      rw [g.1 (-2) (by omega)]
      exact fin g.2
theorem law0 {m : jM} {x : Int → Int} {L : Nat} (H : mR m 0 160 x []) (hL : L ≤ 3072) (hx : ∀ j : Int, 0 ≤ j → in32 (x j)) : jK 1000 zL_law [jY 4 (L : Int) (-2)] m (fun v _ => v = 1) := by
  refine gL_law 999 L (-2) m _ ?_
  have N := mR_nw (c' := 0 + 1) H (by omega) (by omega)
  have J := mR_jl (y := zX10_init) (n := 102) N (by decide +kernel)
  rw [H.1, H.2.1, N.1, N.2.1]
  refine ⟨⟨by omega, by decide +kernel⟩, by omega, ini_X10 (d := 996) (mR_cg J (by omega) (by omega)) (fun o1 O1 => ?_)⟩
  have S := mR_sl (l' := 160) (mR_cg (c' := 103) (l' := 0 + 103) O1 (by omega) (by omega))
  generalize jUp o1 (-2) (-7) 160 = m1 at S ⊢
  have N1 := mR_nw (c' := 103 + 1) S (by omega) (by omega)
  have J1 := mR_jl (y := zX11_init) (n := 56) N1 (by decide +kernel)
  rw [S.1, S.2.1, N1.1, N1.2.1]
  refine ⟨⟨by omega, by decide +kernel⟩, by omega, ini_X11 (d := 998) (mR_cg J1 (by omega) (by omega)) (fun o2 O2 => ?_)⟩
  have T : mR (jUp o2 (-2) (-7) 160) 160 160 x LG := mR_sl (l' := 160) (mR_cg (c' := 160) (l' := 103 + 57) O2 (by omega) (by omega))
  generalize jUp o2 (-2) (-7) 160 = m2 at T ⊢
  exact law_loop (by omega) (by omega) T.2.1 (fun j hj => by rw [T.2.2.1 j (by omega)]; exact hx j hj) 600 0 m2 (by omega) (by omega) (by omega) (start_inv T) (start_full T) rfl
theorem jLaw_all : jLaw := by
  intro L xs hL
  refine law0 (x := jM0 xs (-2)) ⟨rfl, rfl, fun j _ => rfl, fun w hw => absurd hw (by simp), fun k i h1 h2 => by omega⟩ hL (fun j hj => ?_)
  show in32 (if j = -7 then 160 else if 0 ≤ j then (xs j.toNat).toInt else 0)
  rw [if_neg (by omega), if_pos hj]
  exact ⟨Int32.le_toInt _, Int32.toInt_le _⟩

/-! the two objects -/
def lX10 (g : List (Int × Int × Int × Int)) : List (Int × Int × Int × Int) := (0 + 94, 3, 1, 0 + 101) :: lX7 (0 + 101) ((0 + 94, 2, 1, 0 + 99) :: lX7 (0 + 99) ((0 + 94, 1, 1, 0 + 97) :: lX7 (0 + 97) ((0 + 94, 0, 1, 0 + 95) :: lX7 (0 + 95) ((0, 16, 1, 0 + 94) :: (0, 15, 1, 0) :: (0, 14, 1, 0) :: (0, 13, 1, 0) :: (0, 12, 1, 0) :: (0, 11, 1, 0 + 93) :: (0, 10, 1, 0 + 88) :: lX1 (0 + 88) ((0, 9, 1, 0 + 81) :: lX3 (0 + 81) ((0, 8, 1, 0 + 75) :: lX5 (0 + 75) ((0, 7, 1, 0 + 70) :: lX2 (0 + 70) ((0, 6, 1, 0 + 62) :: lX4 (0 + 62) ((0, 5, 1, 0 + 54) :: lX4 (0 + 54) ((0, 4, 1, 0 + 51) :: lX9 (0 + 51) ((0, 3, 1, 0 + 45) :: lX8 (0 + 45) ((0, 2, 1, 0) :: (0, 1, 1, 0 + 23) :: lX0_23 ((0, 0, 1, 0 + 1) :: lX0_1 (g))))))))))))))
set_option maxHeartbeats 2000000 in
theorem ini_X10 {d : Nat} {m : jM} {x : Int → Int} {g : List (Int × Int × Int × Int)} {Q : Int → jM → Prop} (H : mR m (0 + 1) (0 + 103) x g) (hQ : ∀ m', mR m' (0 + 103) (0 + 103) x (lX10 g) → Q 0 m') : jK (d + 3) zX10_init [jO 10 0] m Q := by
  have K1 : jKd (0 + 1) = 0 := by decide +kernel
  have K2 : jKd (0 + 23) = 0 := by decide +kernel
  have K3 : jKd (0 + 45) = 8 := by decide +kernel
  have K4 : jKd (0 + 51) = 9 := by decide +kernel
  have K5 : jKd (0 + 54) = 4 := by decide +kernel
  have K6 : jKd (0 + 62) = 4 := by decide +kernel
  have K7 : jKd (0 + 70) = 2 := by decide +kernel
  have K8 : jKd (0 + 75) = 5 := by decide +kernel
  have K9 : jKd (0 + 81) = 3 := by decide +kernel
  have K10 : jKd (0 + 88) = 1 := by decide +kernel
  have K11 : (jKd (0 + 93) = 20 ∧ jLn (0 + 93) = 8) := by decide +kernel
  have K12 : (jKd (0 + 94) = 23 ∧ jLn (0 + 94) = 4) := by decide +kernel
  have K13 : jKd (0 + 95) = 7 := by decide +kernel
  have K14 : jKd (0 + 97) = 7 := by decide +kernel
  have K15 : jKd (0 + 99) = 7 := by decide +kernel
  have K16 : jKd (0 + 101) = 7 := by decide +kernel
  have M3 : (0 + 45) ∈ ([45] : List Int) := by decide +kernel
  have M4 : (0 + 51) ∈ ([51] : List Int) := by decide +kernel
  have M5 : (0 + 54) ∈ ([54, 62] : List Int) := by decide +kernel
  have M6 : (0 + 62) ∈ ([54, 62] : List Int) := by decide +kernel
  have M7 : (0 + 70) ∈ ([70] : List Int) := by decide +kernel
  have M8 : (0 + 75) ∈ ([75] : List Int) := by decide +kernel
  have M9 : (0 + 81) ∈ ([81] : List Int) := by decide +kernel
  have M10 : (0 + 88) ∈ ([88] : List Int) := by decide +kernel
  have M13 : (0 + 95) ∈ ([95, 97, 99, 101] : List Int) := by decide +kernel
  have M14 : (0 + 97) ∈ ([95, 97, 99, 101] : List Int) := by decide +kernel
  have M15 : (0 + 99) ∈ ([95, 97, 99, 101] : List Int) := by decide +kernel
  have M16 : (0 + 101) ∈ ([95, 97, 99, 101] : List Int) := by decide +kernel
  refine gX10_init (d + 2) 0 m Q ?_
  refine gX10_init_4 (d + 2) 0 m Q ?_
  have N1 := mR_nw (c' := 0 + 2) H (by omega) (by omega)
  have J1 := mR_jl (y := zX0_init) (n := 21) N1 (by decide +kernel)
  rw [H.1, H.2.1, N1.1, N1.2.1]
  refine ⟨⟨by omega, K1⟩, by omega, ini_X0_1 (d := d + 0) (mR_cg J1 (by omega) (by omega)) (fun o1 O1 => ?_)⟩
  refine ⟨by omega, ?_⟩
  have H1 := mR_up (i := 0) (v := 0 + 1) (mR_sl (l' := 0 + 103) (mR_cg (c' := 0 + 23) (l' := 0 + 23) O1 (by omega) (by omega))) (k := 0) (by omega) (by omega)
  generalize jUp (jUp o1 (-2) (-7) (0 + 103)) 0 0 (0 + 1) = m1 at H1 ⊢
  refine gX10_init_15 (d + 2) 0 m1 Q ?_
  have N2 := mR_nw (c' := 0 + 24) H1 (by omega) (by omega)
  have J2 := mR_jl (y := zX0_init) (n := 21) N2 (by decide +kernel)
  rw [H1.1, H1.2.1, N2.1, N2.2.1]
  refine ⟨⟨by omega, K2⟩, by omega, ini_X0_23 (d := d + 0) (mR_cg J2 (by omega) (by omega)) (fun o2 O2 => ?_)⟩
  refine ⟨by omega, ?_⟩
  have H2 := mR_up (i := 1) (v := 0 + 23) (mR_sl (l' := 0 + 103) (mR_cg (c' := 0 + 45) (l' := 0 + 45) O2 (by omega) (by omega))) (k := 0) (by omega) (by omega)
  generalize jUp (jUp o2 (-2) (-7) (0 + 103)) 0 1 (0 + 23) = m2 at H2 ⊢
  refine gX10_init_26 (d + 2) 0 m2 Q ?_
  have H3 := mR_up (i := 2) (v := 0) H2 (k := 0) (by omega) (by omega)
  generalize jUp m2 0 2 0 = m3 at H3 ⊢
  refine gX10_init_31 (d + 2) 0 m3 Q ?_
  have N4 := mR_nw (c' := 0 + 46) H3 (by omega) (by omega)
  have J4 := mR_jl (y := zX8_init) (n := 5) N4 (by decide +kernel)
  rw [H3.1, H3.2.1, N4.1, N4.2.1]
  refine ⟨⟨by omega, K3⟩, by omega, ini_X8 (d := d + 0) (p := 0 + 45) M3 (mR_cg J4 (by omega) (by omega)) (fun o4 O4 => ?_)⟩
  refine ⟨by omega, ?_⟩
  have H4 := mR_up (i := 3) (v := 0 + 45) (mR_sl (l' := 0 + 103) (mR_cg (c' := 0 + 51) (l' := 0 + 51) O4 (by omega) (by omega))) (k := 0) (by omega) (by omega)
  generalize jUp (jUp o4 (-2) (-7) (0 + 103)) 0 3 (0 + 45) = m4 at H4 ⊢
  refine gX10_init_42 (d + 2) 0 m4 Q ?_
  have N5 := mR_nw (c' := 0 + 52) H4 (by omega) (by omega)
  have J5 := mR_jl (y := zX9_init) (n := 2) N5 (by decide +kernel)
  rw [H4.1, H4.2.1, N5.1, N5.2.1]
  refine ⟨⟨by omega, K4⟩, by omega, ini_X9 (d := d + 1) (p := 0 + 51) M4 (mR_cg J5 (by omega) (by omega)) (fun o5 O5 => ?_)⟩
  refine ⟨by omega, ?_⟩
  have H5 := mR_up (i := 4) (v := 0 + 51) (mR_sl (l' := 0 + 103) (mR_cg (c' := 0 + 54) (l' := 0 + 54) O5 (by omega) (by omega))) (k := 0) (by omega) (by omega)
  generalize jUp (jUp o5 (-2) (-7) (0 + 103)) 0 4 (0 + 51) = m5 at H5 ⊢
  refine gX10_init_53 (d + 2) 0 m5 Q ?_
  have N6 := mR_nw (c' := 0 + 55) H5 (by omega) (by omega)
  have J6 := mR_jl (y := zX4_init) (n := 7) N6 (by decide +kernel)
  rw [H5.1, H5.2.1, N6.1, N6.2.1]
  refine ⟨⟨by omega, K5⟩, by omega, ini_X4 (d := d + 1) (p := 0 + 54) M5 (mR_cg J6 (by omega) (by omega)) (fun o6 O6 => ?_)⟩
  refine ⟨by omega, ?_⟩
  have H6 := mR_up (i := 5) (v := 0 + 54) (mR_sl (l' := 0 + 103) (mR_cg (c' := 0 + 62) (l' := 0 + 62) O6 (by omega) (by omega))) (k := 0) (by omega) (by omega)
  generalize jUp (jUp o6 (-2) (-7) (0 + 103)) 0 5 (0 + 54) = m6 at H6 ⊢
  refine gX10_init_64 (d + 2) 0 m6 Q ?_
  have N7 := mR_nw (c' := 0 + 63) H6 (by omega) (by omega)
  have J7 := mR_jl (y := zX4_init) (n := 7) N7 (by decide +kernel)
  rw [H6.1, H6.2.1, N7.1, N7.2.1]
  refine ⟨⟨by omega, K6⟩, by omega, ini_X4 (d := d + 1) (p := 0 + 62) M6 (mR_cg J7 (by omega) (by omega)) (fun o7 O7 => ?_)⟩
  refine ⟨by omega, ?_⟩
  have H7 := mR_up (i := 6) (v := 0 + 62) (mR_sl (l' := 0 + 103) (mR_cg (c' := 0 + 70) (l' := 0 + 70) O7 (by omega) (by omega))) (k := 0) (by omega) (by omega)
  generalize jUp (jUp o7 (-2) (-7) (0 + 103)) 0 6 (0 + 62) = m7 at H7 ⊢
  refine gX10_init_75 (d + 2) 0 m7 Q ?_
  have N8 := mR_nw (c' := 0 + 71) H7 (by omega) (by omega)
  have J8 := mR_jl (y := zX2_init) (n := 4) N8 (by decide +kernel)
  rw [H7.1, H7.2.1, N8.1, N8.2.1]
  refine ⟨⟨by omega, K7⟩, by omega, ini_X2 (d := d + 1) (p := 0 + 70) M7 (mR_cg J8 (by omega) (by omega)) (fun o8 O8 => ?_)⟩
  refine ⟨by omega, ?_⟩
  have H8 := mR_up (i := 7) (v := 0 + 70) (mR_sl (l' := 0 + 103) (mR_cg (c' := 0 + 75) (l' := 0 + 75) O8 (by omega) (by omega))) (k := 0) (by omega) (by omega)
  generalize jUp (jUp o8 (-2) (-7) (0 + 103)) 0 7 (0 + 70) = m8 at H8 ⊢
  refine gX10_init_86 (d + 2) 0 m8 Q ?_
  have N9 := mR_nw (c' := 0 + 76) H8 (by omega) (by omega)
  have J9 := mR_jl (y := zX5_init) (n := 5) N9 (by decide +kernel)
  rw [H8.1, H8.2.1, N9.1, N9.2.1]
  refine ⟨⟨by omega, K8⟩, by omega, ini_X5 (d := d + 1) (p := 0 + 75) M8 (mR_cg J9 (by omega) (by omega)) (fun o9 O9 => ?_)⟩
  refine ⟨by omega, ?_⟩
  have H9 := mR_up (i := 8) (v := 0 + 75) (mR_sl (l' := 0 + 103) (mR_cg (c' := 0 + 81) (l' := 0 + 81) O9 (by omega) (by omega))) (k := 0) (by omega) (by omega)
  generalize jUp (jUp o9 (-2) (-7) (0 + 103)) 0 8 (0 + 75) = m9 at H9 ⊢
  refine gX10_init_97 (d + 2) 0 m9 Q ?_
  have N10 := mR_nw (c' := 0 + 82) H9 (by omega) (by omega)
  have J10 := mR_jl (y := zX3_init) (n := 6) N10 (by decide +kernel)
  rw [H9.1, H9.2.1, N10.1, N10.2.1]
  refine ⟨⟨by omega, K9⟩, by omega, ini_X3 (d := d + 1) (p := 0 + 81) M9 (mR_cg J10 (by omega) (by omega)) (fun o10 O10 => ?_)⟩
  refine ⟨by omega, ?_⟩
  have H10 := mR_up (i := 9) (v := 0 + 81) (mR_sl (l' := 0 + 103) (mR_cg (c' := 0 + 88) (l' := 0 + 88) O10 (by omega) (by omega))) (k := 0) (by omega) (by omega)
  generalize jUp (jUp o10 (-2) (-7) (0 + 103)) 0 9 (0 + 81) = m10 at H10 ⊢
  refine gX10_init_108 (d + 2) 0 m10 Q ?_
  have N11 := mR_nw (c' := 0 + 89) H10 (by omega) (by omega)
  have J11 := mR_jl (y := zX1_init) (n := 4) N11 (by decide +kernel)
  rw [H10.1, H10.2.1, N11.1, N11.2.1]
  refine ⟨⟨by omega, K10⟩, by omega, ini_X1 (d := d + 1) (p := 0 + 88) M10 (mR_cg J11 (by omega) (by omega)) (fun o11 O11 => ?_)⟩
  refine ⟨by omega, ?_⟩
  have H11 := mR_up (i := 10) (v := 0 + 88) (mR_sl (l' := 0 + 103) (mR_cg (c' := 0 + 93) (l' := 0 + 93) O11 (by omega) (by omega))) (k := 0) (by omega) (by omega)
  generalize jUp (jUp o11 (-2) (-7) (0 + 103)) 0 10 (0 + 88) = m11 at H11 ⊢
  refine gX10_init_119 (d + 2) 0 m11 Q ?_
  rw [H11.1, H11.2.1]
  refine ⟨⟨by omega, K11.1, K11.2⟩, by omega, ?_⟩
  have H12 := mR_up (i := 11) (v := 0 + 93) (mR_nw (c' := 0 + 94) H11 (by omega) (by omega)) (k := 0) (by omega) (by omega)
  generalize jUp (jNw m11) 0 11 (0 + 93) = m12 at H12 ⊢
  refine gX10_init_127 (d + 2) 0 m12 Q ?_
  have H13 := mR_up (i := 12) (v := 0) H12 (k := 0) (by omega) (by omega)
  generalize jUp m12 0 12 0 = m13 at H13 ⊢
  refine gX10_init_132 (d + 2) 0 m13 Q ?_
  have H14 := mR_up (i := 13) (v := 0) H13 (k := 0) (by omega) (by omega)
  generalize jUp m13 0 13 0 = m14 at H14 ⊢
  refine gX10_init_137 (d + 2) 0 m14 Q ?_
  have H15 := mR_up (i := 14) (v := 0) H14 (k := 0) (by omega) (by omega)
  generalize jUp m14 0 14 0 = m15 at H15 ⊢
  refine gX10_init_142 (d + 2) 0 m15 Q ?_
  have H16 := mR_up (i := 15) (v := 0) H15 (k := 0) (by omega) (by omega)
  generalize jUp m15 0 15 0 = m16 at H16 ⊢
  refine gX10_init_147 (d + 2) 0 m16 Q ?_
  rw [H16.1, H16.2.1]
  refine ⟨⟨by omega, K12.1, K12.2⟩, by omega, ?_⟩
  have H17 := mR_up (i := 16) (v := 0 + 94) (mR_nw (c' := 0 + 95) H16 (by omega) (by omega)) (k := 0) (by omega) (by omega)
  generalize jUp (jNw m16) 0 16 (0 + 94) = m17 at H17 ⊢
  refine gX10_init_155 (d + 2) 0 m17 Q ?_
  refine gX10_init_157 (d + 2) 0 0 m17 Q ⟨fun _ => ?_, fun h => absurd (by omega) h⟩
  refine gX10_init_162 (d + 2) 0 0 m17 Q ?_
  have N18 := mR_nw (c' := 0 + 96) H17 (by omega) (by omega)
  have J18 := mR_jl (y := zX7_init) (n := 1) N18 (by decide +kernel)
  have V18 : m17 0 16 = 0 + 94 := (H17.2.2.2.2 0 16 (by omega) (by omega)).trans rfl
  rw [H17.1, H17.2.1, N18.1, N18.2.1]
  refine ⟨V18, ⟨by omega, K13⟩, by omega, ini_X7 (d := d + 1) (p := 0 + 95) M13 (mR_cg J18 (by omega) (by omega)) (fun o18 O18 => ⟨by omega, ?_⟩)⟩
  have H18 := mR_up (i := 0) (v := 0 + 95) (mR_sl (l' := 0 + 103) (mR_cg (c' := 0 + 97) (l' := 0 + 97) O18 (by omega) (by omega))) (k := 0 + 94) (by omega) (by omega)
  generalize jUp (jUp o18 (-2) (-7) (0 + 103)) (0 + 94) 0 (0 + 95) = m18 at H18 ⊢
  refine gX10_init_175 (d + 2) 0 0 m18 Q ?_
  rw [show w32 (0 + 1) = 1 from by decide +kernel]
  refine gX10_init_178 (d + 2) 0 1 m18 Q ?_
  refine gX10_init_157 (d + 2) 0 1 m18 Q ⟨fun _ => ?_, fun h => absurd (by omega) h⟩
  refine gX10_init_162 (d + 2) 0 1 m18 Q ?_
  have N19 := mR_nw (c' := 0 + 98) H18 (by omega) (by omega)
  have J19 := mR_jl (y := zX7_init) (n := 1) N19 (by decide +kernel)
  have V19 : m18 0 16 = 0 + 94 := (H18.2.2.2.2 0 16 (by omega) (by omega)).trans rfl
  rw [H18.1, H18.2.1, N19.1, N19.2.1]
  refine ⟨V19, ⟨by omega, K14⟩, by omega, ini_X7 (d := d + 1) (p := 0 + 97) M14 (mR_cg J19 (by omega) (by omega)) (fun o19 O19 => ⟨by omega, ?_⟩)⟩
  have H19 := mR_up (i := 1) (v := 0 + 97) (mR_sl (l' := 0 + 103) (mR_cg (c' := 0 + 99) (l' := 0 + 99) O19 (by omega) (by omega))) (k := 0 + 94) (by omega) (by omega)
  generalize jUp (jUp o19 (-2) (-7) (0 + 103)) (0 + 94) 1 (0 + 97) = m19 at H19 ⊢
  refine gX10_init_175 (d + 2) 0 1 m19 Q ?_
  rw [show w32 (1 + 1) = 2 from by decide +kernel]
  refine gX10_init_178 (d + 2) 0 2 m19 Q ?_
  refine gX10_init_157 (d + 2) 0 2 m19 Q ⟨fun _ => ?_, fun h => absurd (by omega) h⟩
  refine gX10_init_162 (d + 2) 0 2 m19 Q ?_
  have N20 := mR_nw (c' := 0 + 100) H19 (by omega) (by omega)
  have J20 := mR_jl (y := zX7_init) (n := 1) N20 (by decide +kernel)
  have V20 : m19 0 16 = 0 + 94 := (H19.2.2.2.2 0 16 (by omega) (by omega)).trans rfl
  rw [H19.1, H19.2.1, N20.1, N20.2.1]
  refine ⟨V20, ⟨by omega, K15⟩, by omega, ini_X7 (d := d + 1) (p := 0 + 99) M15 (mR_cg J20 (by omega) (by omega)) (fun o20 O20 => ⟨by omega, ?_⟩)⟩
  have H20 := mR_up (i := 2) (v := 0 + 99) (mR_sl (l' := 0 + 103) (mR_cg (c' := 0 + 101) (l' := 0 + 101) O20 (by omega) (by omega))) (k := 0 + 94) (by omega) (by omega)
  generalize jUp (jUp o20 (-2) (-7) (0 + 103)) (0 + 94) 2 (0 + 99) = m20 at H20 ⊢
  refine gX10_init_175 (d + 2) 0 2 m20 Q ?_
  rw [show w32 (2 + 1) = 3 from by decide +kernel]
  refine gX10_init_178 (d + 2) 0 3 m20 Q ?_
  refine gX10_init_157 (d + 2) 0 3 m20 Q ⟨fun _ => ?_, fun h => absurd (by omega) h⟩
  refine gX10_init_162 (d + 2) 0 3 m20 Q ?_
  have N21 := mR_nw (c' := 0 + 102) H20 (by omega) (by omega)
  have J21 := mR_jl (y := zX7_init) (n := 1) N21 (by decide +kernel)
  have V21 : m20 0 16 = 0 + 94 := (H20.2.2.2.2 0 16 (by omega) (by omega)).trans rfl
  rw [H20.1, H20.2.1, N21.1, N21.2.1]
  refine ⟨V21, ⟨by omega, K16⟩, by omega, ini_X7 (d := d + 1) (p := 0 + 101) M16 (mR_cg J21 (by omega) (by omega)) (fun o21 O21 => ⟨by omega, ?_⟩)⟩
  have H21 := mR_up (i := 3) (v := 0 + 101) (mR_sl (l' := 0 + 103) (mR_cg (c' := 0 + 103) (l' := 0 + 103) O21 (by omega) (by omega))) (k := 0 + 94) (by omega) (by omega)
  generalize jUp (jUp o21 (-2) (-7) (0 + 103)) (0 + 94) 3 (0 + 101) = m21 at H21 ⊢
  refine gX10_init_175 (d + 2) 0 3 m21 Q ?_
  rw [show w32 (3 + 1) = 4 from by decide +kernel]
  refine gX10_init_178 (d + 2) 0 4 m21 Q ?_
  refine gX10_init_157 (d + 2) 0 4 m21 Q ⟨fun h => absurd h (by omega), fun _ => ?_⟩
  refine gX10_init_181 (d + 2) m21 Q ⟨by rw [H21.1, H21.2.1], hQ _ H21⟩
theorem X11_loop0 {d : Nat} {c l : Int} {x : Int → Int} {g : List (Int × Int × Int × Int)} {Q : Int → jM → Prop} (hc : 106 < c) (hQ : ∀ m', mR m' c l x ((103 + 3, 0, 64, -1) :: g) → aX11_init_490 d m' Q) : ∀ (k : Nat) (y : Int), 0 ≤ y → y + k = 64 → ∀ m : jM, m 103 3 = 103 + 3 → mR m c l x ((103 + 3, 0, y, -1) :: g) → aX11_init_469 d 103 y m Q := by
  intro k
  induction k with
  | zero =>
    intro y y0 yk m e H
    refine gX11_init_469 d 103 y m Q ⟨fun h => by omega, fun _ => hQ m ?_⟩
    rw [show (64 : Int) = y by omega]
    exact H
  | succ k ih =>
    intro y y0 yk m e H
    refine gX11_init_469 d 103 y m Q ⟨fun _ => gX11_init_475 d 103 y m Q ⟨e, by omega, gX11_init_484 d 103 y _ Q (gX11_init_487 d 103 _ _ Q ?_)⟩, fun h => by omega⟩
    rw [w32_id (by omega) (by omega)]
    refine ih (y + 1) (by omega) (by omega) _ (by rw [up_ne (by omega)]; exact e) (mR_vl (mR_up (k := 103 + 3) (i := y) (v := -1) H (by omega) (by omega)) ?_ ?_)
    · intro w hw
      rcases List.mem_cons.mp hw with rfl | hw
      · show (103 : Int) + 3 < c; omega
      · exact H.2.2.2.1 w (List.mem_cons_of_mem _ hw)
    · intro q j
      rw [val_c, val_c, val_c]
      dsimp only
      by_cases h1 : q = 103 + 3 ∧ y ≤ j ∧ j < y + 1
      · rw [if_pos h1, if_pos (by omega)]
      · rw [if_neg h1]
        by_cases h2 : q = 103 + 3 ∧ 0 ≤ j ∧ j < 0 + y
        · rw [if_pos h2, if_pos (by omega)]
        · rw [if_neg h2, if_neg (by omega)]
theorem X11_loop {d : Nat} {m : jM} {c l : Int} {x : Int → Int} {g : List (Int × Int × Int × Int)} {Q : Int → jM → Prop} (hc : 106 < c) (e : m 103 3 = 103 + 3) (H : mR m c l x g) (hQ : ∀ m', mR m' c l x ((103 + 3, 0, 64, -1) :: g) → aX11_init_490 d m' Q) : aX11_init_469 d 103 0 m Q := by
  refine X11_loop0 hc hQ 64 0 (by omega) (by omega) m e (mR_vl H ?_ ?_)
  · intro w hw
    rcases List.mem_cons.mp hw with rfl | hw
    · show (103 : Int) + 3 < c; omega
    · exact H.2.2.2.1 w hw
  · intro q j
    rw [val_c]
    dsimp only
    rw [if_neg (by omega)]

def lX11 (g : List (Int × Int × Int × Int)) : List (Int × Int × Int × Int) := (103 + 3, 0, 64, -1) :: (103, 79, 1, 103 + 56) :: (103, 78, 1, 103 + 55) :: (103, 77, 1, 103 + 54) :: (103 + 54, 3, 1, -1) :: (103 + 54, 2, 1, -1) :: (103 + 54, 1, 1, -1) :: (103 + 54, 0, 1, -1) :: (103, 76, 1, 103 + 53) :: (103, 75, 1, 103 + 52) :: (103, 74, 1, 103 + 51) :: (103, 73, 1, 103 + 50) :: (103, 72, 1, 103 + 49) :: (103, 71, 1, 103 + 48) :: (103, 70, 1, 103 + 47) :: (103, 69, 1, 103 + 46) :: (103, 67, 1, 103 + 45) :: (103, 66, 1, 103 + 44) :: (103, 65, 1, 103 + 43) :: (103, 60, 1, 103 + 42) :: (103, 59, 1, 103 + 41) :: (103, 58, 1, 103 + 40) :: (103, 57, 1, 103 + 39) :: (103, 56, 1, 103 + 38) :: (103, 55, 1, 103 + 37) :: (103, 54, 1, 103 + 36) :: (103, 53, 1, 103 + 35) :: (103, 52, 1, 103 + 34) :: (103, 51, 1, 103 + 33) :: (103, 49, 1, 103 + 32) :: (103, 47, 1, 103 + 31) :: (103, 46, 1, 103 + 30) :: (103, 45, 1, 103 + 29) :: (103, 44, 1, 103 + 28) :: (103, 43, 1, 103 + 27) :: (103, 42, 1, 103 + 26) :: (103, 41, 1, 103 + 25) :: (103, 40, 1, 103 + 24) :: (103, 32, 1, 103 + 23) :: (103, 31, 1, 103 + 22) :: (103, 30, 1, 103 + 21) :: (103, 29, 1, 103 + 20) :: (103, 28, 1, 103 + 19) :: (103, 27, 1, 103 + 18) :: (103, 26, 1, 103 + 17) :: (103, 25, 1, 103 + 16) :: (103, 15, 1, 103 + 15) :: (103, 14, 1, 103 + 14) :: (103, 13, 1, 103 + 13) :: (103, 12, 1, 103 + 12) :: (103, 11, 1, 103 + 11) :: (103, 10, 1, 103 + 10) :: (103, 9, 1, 103 + 9) :: (103, 8, 1, 103 + 8) :: (103, 7, 1, 103 + 7) :: (103, 6, 1, 103 + 6) :: (103, 5, 1, 103 + 5) :: (103, 4, 1, 103 + 4) :: (103, 3, 1, 103 + 3) :: (103, 2, 1, 103 + 2) :: (103, 1, 1, 103 + 1) :: g
set_option maxHeartbeats 2000000 in
theorem ini_X11 {d : Nat} {m : jM} {x : Int → Int} {g : List (Int × Int × Int × Int)} {Q : Int → jM → Prop} (H : mR m (103 + 1) (103 + 57) x g) (hQ : ∀ m', mR m' (103 + 57) (103 + 57) x (lX11 g) → Q 0 m') : jK (d + 1) zX11_init [jO 11 103] m Q := by
  have K1 : (jKd (103 + 1) = 20 ∧ jLn (103 + 1) = 16) := by decide +kernel
  have K2 : (jKd (103 + 2) = 20 ∧ jLn (103 + 2) = 48) := by decide +kernel
  have K3 : (jKd (103 + 3) = 21 ∧ jLn (103 + 3) = 64) := by decide +kernel
  have K4 : (jKd (103 + 4) = 20 ∧ jLn (103 + 4) = 64) := by decide +kernel
  have K5 : (jKd (103 + 5) = 20 ∧ jLn (103 + 5) = 4) := by decide +kernel
  have K6 : (jKd (103 + 6) = 20 ∧ jLn (103 + 6) = 4) := by decide +kernel
  have K7 : (jKd (103 + 7) = 20 ∧ jLn (103 + 7) = 16) := by decide +kernel
  have K8 : (jKd (103 + 8) = 20 ∧ jLn (103 + 8) = 96) := by decide +kernel
  have K9 : (jKd (103 + 9) = 20 ∧ jLn (103 + 9) = 96) := by decide +kernel
  have K10 : (jKd (103 + 10) = 20 ∧ jLn (103 + 10) = 96) := by decide +kernel
  have K11 : (jKd (103 + 11) = 20 ∧ jLn (103 + 11) = 96) := by decide +kernel
  have K12 : (jKd (103 + 12) = 20 ∧ jLn (103 + 12) = 96) := by decide +kernel
  have K13 : (jKd (103 + 13) = 20 ∧ jLn (103 + 13) = 96) := by decide +kernel
  have K14 : (jKd (103 + 14) = 20 ∧ jLn (103 + 14) = 96) := by decide +kernel
  have K15 : (jKd (103 + 15) = 20 ∧ jLn (103 + 15) = 60) := by decide +kernel
  have K16 : (jKd (103 + 16) = 20 ∧ jLn (103 + 16) = 24) := by decide +kernel
  have K17 : (jKd (103 + 17) = 20 ∧ jLn (103 + 17) = 24) := by decide +kernel
  have K18 : (jKd (103 + 18) = 20 ∧ jLn (103 + 18) = 24) := by decide +kernel
  have K19 : (jKd (103 + 19) = 20 ∧ jLn (103 + 19) = 24) := by decide +kernel
  have K20 : (jKd (103 + 20) = 20 ∧ jLn (103 + 20) = 24) := by decide +kernel
  have K21 : (jKd (103 + 21) = 20 ∧ jLn (103 + 21) = 24) := by decide +kernel
  have K22 : (jKd (103 + 22) = 20 ∧ jLn (103 + 22) = 24) := by decide +kernel
  have K23 : (jKd (103 + 23) = 20 ∧ jLn (103 + 23) = 4) := by decide +kernel
  have K24 : (jKd (103 + 24) = 21 ∧ jLn (103 + 24) = 64) := by decide +kernel
  have K25 : (jKd (103 + 25) = 21 ∧ jLn (103 + 25) = 64) := by decide +kernel
  have K26 : (jKd (103 + 26) = 21 ∧ jLn (103 + 26) = 2304) := by decide +kernel
  have K27 : (jKd (103 + 27) = 20 ∧ jLn (103 + 27) = 2304) := by decide +kernel
  have K28 : (jKd (103 + 28) = 20 ∧ jLn (103 + 28) = 8) := by decide +kernel
  have K29 : (jKd (103 + 29) = 21 ∧ jLn (103 + 29) = 8) := by decide +kernel
  have K30 : (jKd (103 + 30) = 21 ∧ jLn (103 + 30) = 13) := by decide +kernel
  have K31 : (jKd (103 + 31) = 20 ∧ jLn (103 + 31) = 104) := by decide +kernel
  have K32 : (jKd (103 + 32) = 21 ∧ jLn (103 + 32) = 2304) := by decide +kernel
  have K33 : (jKd (103 + 33) = 21 ∧ jLn (103 + 33) = 8) := by decide +kernel
  have K34 : (jKd (103 + 34) = 21 ∧ jLn (103 + 34) = 8) := by decide +kernel
  have K35 : (jKd (103 + 35) = 20 ∧ jLn (103 + 35) = 120) := by decide +kernel
  have K36 : (jKd (103 + 36) = 20 ∧ jLn (103 + 36) = 120) := by decide +kernel
  have K37 : (jKd (103 + 37) = 20 ∧ jLn (103 + 37) = 120) := by decide +kernel
  have K38 : (jKd (103 + 38) = 20 ∧ jLn (103 + 38) = 120) := by decide +kernel
  have K39 : (jKd (103 + 39) = 21 ∧ jLn (103 + 39) = 120) := by decide +kernel
  have K40 : (jKd (103 + 40) = 21 ∧ jLn (103 + 40) = 1920) := by decide +kernel
  have K41 : (jKd (103 + 41) = 20 ∧ jLn (103 + 41) = 8) := by decide +kernel
  have K42 : (jKd (103 + 42) = 20 ∧ jLn (103 + 42) = 8) := by decide +kernel
  have K43 : (jKd (103 + 43) = 20 ∧ jLn (103 + 43) = 120) := by decide +kernel
  have K44 : (jKd (103 + 44) = 20 ∧ jLn (103 + 44) = 64) := by decide +kernel
  have K45 : (jKd (103 + 45) = 20 ∧ jLn (103 + 45) = 8) := by decide +kernel
  have K46 : (jKd (103 + 46) = 20 ∧ jLn (103 + 46) = 16) := by decide +kernel
  have K47 : (jKd (103 + 47) = 20 ∧ jLn (103 + 47) = 48) := by decide +kernel
  have K48 : (jKd (103 + 48) = 21 ∧ jLn (103 + 48) = 64) := by decide +kernel
  have K49 : (jKd (103 + 49) = 20 ∧ jLn (103 + 49) = 64) := by decide +kernel
  have K50 : (jKd (103 + 50) = 20 ∧ jLn (103 + 50) = 4) := by decide +kernel
  have K51 : (jKd (103 + 51) = 20 ∧ jLn (103 + 51) = 4) := by decide +kernel
  have K52 : (jKd (103 + 52) = 20 ∧ jLn (103 + 52) = 16) := by decide +kernel
  have K53 : (jKd (103 + 53) = 20 ∧ jLn (103 + 53) = 672) := by decide +kernel
  have K54 : (jKd (103 + 54) = 20 ∧ jLn (103 + 54) = 4) := by decide +kernel
  have K55 : (jKd (103 + 55) = 20 ∧ jLn (103 + 55) = 4) := by decide +kernel
  have K56 : (jKd (103 + 56) = 21 ∧ jLn (103 + 56) = 160) := by decide +kernel
  refine gX11_init (d + 0) 103 m Q ?_
  refine gX11_init_4 (d + 0) 103 m Q ?_
  rw [H.1, H.2.1]
  refine ⟨⟨by omega, K1.1, K1.2⟩, by omega, ?_⟩
  have H1 := mR_up (i := 1) (v := 103 + 1) (mR_nw (c' := 103 + 2) H (by omega) (by omega)) (k := 103) (by omega) (by omega)
  generalize jUp (jNw m) 103 1 (103 + 1) = m1 at H1 ⊢
  refine gX11_init_12 (d + 0) 103 m1 Q ?_
  rw [H1.1, H1.2.1]
  refine ⟨⟨by omega, K2.1, K2.2⟩, by omega, ?_⟩
  have H2 := mR_up (i := 2) (v := 103 + 2) (mR_nw (c' := 103 + 3) H1 (by omega) (by omega)) (k := 103) (by omega) (by omega)
  generalize jUp (jNw m1) 103 2 (103 + 2) = m2 at H2 ⊢
  refine gX11_init_20 (d + 0) 103 m2 Q ?_
  rw [H2.1, H2.2.1]
  refine ⟨⟨by omega, K3.1, K3.2⟩, by omega, ?_⟩
  have H3 := mR_up (i := 3) (v := 103 + 3) (mR_nw (c' := 103 + 4) H2 (by omega) (by omega)) (k := 103) (by omega) (by omega)
  generalize jUp (jNw m2) 103 3 (103 + 3) = m3 at H3 ⊢
  refine gX11_init_28 (d + 0) 103 m3 Q ?_
  rw [H3.1, H3.2.1]
  refine ⟨⟨by omega, K4.1, K4.2⟩, by omega, ?_⟩
  have H4 := mR_up (i := 4) (v := 103 + 4) (mR_nw (c' := 103 + 5) H3 (by omega) (by omega)) (k := 103) (by omega) (by omega)
  generalize jUp (jNw m3) 103 4 (103 + 4) = m4 at H4 ⊢
  refine gX11_init_36 (d + 0) 103 m4 Q ?_
  rw [H4.1, H4.2.1]
  refine ⟨⟨by omega, K5.1, K5.2⟩, by omega, ?_⟩
  have H5 := mR_up (i := 5) (v := 103 + 5) (mR_nw (c' := 103 + 6) H4 (by omega) (by omega)) (k := 103) (by omega) (by omega)
  generalize jUp (jNw m4) 103 5 (103 + 5) = m5 at H5 ⊢
  refine gX11_init_43 (d + 0) 103 m5 Q ?_
  rw [H5.1, H5.2.1]
  refine ⟨⟨by omega, K6.1, K6.2⟩, by omega, ?_⟩
  have H6 := mR_up (i := 6) (v := 103 + 6) (mR_nw (c' := 103 + 7) H5 (by omega) (by omega)) (k := 103) (by omega) (by omega)
  generalize jUp (jNw m5) 103 6 (103 + 6) = m6 at H6 ⊢
  refine gX11_init_50 (d + 0) 103 m6 Q ?_
  rw [H6.1, H6.2.1]
  refine ⟨⟨by omega, K7.1, K7.2⟩, by omega, ?_⟩
  have H7 := mR_up (i := 7) (v := 103 + 7) (mR_nw (c' := 103 + 8) H6 (by omega) (by omega)) (k := 103) (by omega) (by omega)
  generalize jUp (jNw m6) 103 7 (103 + 7) = m7 at H7 ⊢
  refine gX11_init_58 (d + 0) 103 m7 Q ?_
  rw [H7.1, H7.2.1]
  refine ⟨⟨by omega, K8.1, K8.2⟩, by omega, ?_⟩
  have H8 := mR_up (i := 8) (v := 103 + 8) (mR_nw (c' := 103 + 9) H7 (by omega) (by omega)) (k := 103) (by omega) (by omega)
  generalize jUp (jNw m7) 103 8 (103 + 8) = m8 at H8 ⊢
  refine gX11_init_66 (d + 0) 103 m8 Q ?_
  rw [H8.1, H8.2.1]
  refine ⟨⟨by omega, K9.1, K9.2⟩, by omega, ?_⟩
  have H9 := mR_up (i := 9) (v := 103 + 9) (mR_nw (c' := 103 + 10) H8 (by omega) (by omega)) (k := 103) (by omega) (by omega)
  generalize jUp (jNw m8) 103 9 (103 + 9) = m9 at H9 ⊢
  refine gX11_init_74 (d + 0) 103 m9 Q ?_
  rw [H9.1, H9.2.1]
  refine ⟨⟨by omega, K10.1, K10.2⟩, by omega, ?_⟩
  have H10 := mR_up (i := 10) (v := 103 + 10) (mR_nw (c' := 103 + 11) H9 (by omega) (by omega)) (k := 103) (by omega) (by omega)
  generalize jUp (jNw m9) 103 10 (103 + 10) = m10 at H10 ⊢
  refine gX11_init_82 (d + 0) 103 m10 Q ?_
  rw [H10.1, H10.2.1]
  refine ⟨⟨by omega, K11.1, K11.2⟩, by omega, ?_⟩
  have H11 := mR_up (i := 11) (v := 103 + 11) (mR_nw (c' := 103 + 12) H10 (by omega) (by omega)) (k := 103) (by omega) (by omega)
  generalize jUp (jNw m10) 103 11 (103 + 11) = m11 at H11 ⊢
  refine gX11_init_90 (d + 0) 103 m11 Q ?_
  rw [H11.1, H11.2.1]
  refine ⟨⟨by omega, K12.1, K12.2⟩, by omega, ?_⟩
  have H12 := mR_up (i := 12) (v := 103 + 12) (mR_nw (c' := 103 + 13) H11 (by omega) (by omega)) (k := 103) (by omega) (by omega)
  generalize jUp (jNw m11) 103 12 (103 + 12) = m12 at H12 ⊢
  refine gX11_init_98 (d + 0) 103 m12 Q ?_
  rw [H12.1, H12.2.1]
  refine ⟨⟨by omega, K13.1, K13.2⟩, by omega, ?_⟩
  have H13 := mR_up (i := 13) (v := 103 + 13) (mR_nw (c' := 103 + 14) H12 (by omega) (by omega)) (k := 103) (by omega) (by omega)
  generalize jUp (jNw m12) 103 13 (103 + 13) = m13 at H13 ⊢
  refine gX11_init_106 (d + 0) 103 m13 Q ?_
  rw [H13.1, H13.2.1]
  refine ⟨⟨by omega, K14.1, K14.2⟩, by omega, ?_⟩
  have H14 := mR_up (i := 14) (v := 103 + 14) (mR_nw (c' := 103 + 15) H13 (by omega) (by omega)) (k := 103) (by omega) (by omega)
  generalize jUp (jNw m13) 103 14 (103 + 14) = m14 at H14 ⊢
  refine gX11_init_114 (d + 0) 103 m14 Q ?_
  rw [H14.1, H14.2.1]
  refine ⟨⟨by omega, K15.1, K15.2⟩, by omega, ?_⟩
  have H15 := mR_up (i := 15) (v := 103 + 15) (mR_nw (c' := 103 + 16) H14 (by omega) (by omega)) (k := 103) (by omega) (by omega)
  generalize jUp (jNw m14) 103 15 (103 + 15) = m15 at H15 ⊢
  refine gX11_init_122 (d + 0) 103 m15 Q ?_
  rw [H15.1, H15.2.1]
  refine ⟨⟨by omega, K16.1, K16.2⟩, by omega, ?_⟩
  have H16 := mR_up (i := 25) (v := 103 + 16) (mR_nw (c' := 103 + 17) H15 (by omega) (by omega)) (k := 103) (by omega) (by omega)
  generalize jUp (jNw m15) 103 25 (103 + 16) = m16 at H16 ⊢
  refine gX11_init_130 (d + 0) 103 m16 Q ?_
  rw [H16.1, H16.2.1]
  refine ⟨⟨by omega, K17.1, K17.2⟩, by omega, ?_⟩
  have H17 := mR_up (i := 26) (v := 103 + 17) (mR_nw (c' := 103 + 18) H16 (by omega) (by omega)) (k := 103) (by omega) (by omega)
  generalize jUp (jNw m16) 103 26 (103 + 17) = m17 at H17 ⊢
  refine gX11_init_138 (d + 0) 103 m17 Q ?_
  rw [H17.1, H17.2.1]
  refine ⟨⟨by omega, K18.1, K18.2⟩, by omega, ?_⟩
  have H18 := mR_up (i := 27) (v := 103 + 18) (mR_nw (c' := 103 + 19) H17 (by omega) (by omega)) (k := 103) (by omega) (by omega)
  generalize jUp (jNw m17) 103 27 (103 + 18) = m18 at H18 ⊢
  refine gX11_init_146 (d + 0) 103 m18 Q ?_
  rw [H18.1, H18.2.1]
  refine ⟨⟨by omega, K19.1, K19.2⟩, by omega, ?_⟩
  have H19 := mR_up (i := 28) (v := 103 + 19) (mR_nw (c' := 103 + 20) H18 (by omega) (by omega)) (k := 103) (by omega) (by omega)
  generalize jUp (jNw m18) 103 28 (103 + 19) = m19 at H19 ⊢
  refine gX11_init_154 (d + 0) 103 m19 Q ?_
  rw [H19.1, H19.2.1]
  refine ⟨⟨by omega, K20.1, K20.2⟩, by omega, ?_⟩
  have H20 := mR_up (i := 29) (v := 103 + 20) (mR_nw (c' := 103 + 21) H19 (by omega) (by omega)) (k := 103) (by omega) (by omega)
  generalize jUp (jNw m19) 103 29 (103 + 20) = m20 at H20 ⊢
  refine gX11_init_162 (d + 0) 103 m20 Q ?_
  rw [H20.1, H20.2.1]
  refine ⟨⟨by omega, K21.1, K21.2⟩, by omega, ?_⟩
  have H21 := mR_up (i := 30) (v := 103 + 21) (mR_nw (c' := 103 + 22) H20 (by omega) (by omega)) (k := 103) (by omega) (by omega)
  generalize jUp (jNw m20) 103 30 (103 + 21) = m21 at H21 ⊢
  refine gX11_init_170 (d + 0) 103 m21 Q ?_
  rw [H21.1, H21.2.1]
  refine ⟨⟨by omega, K22.1, K22.2⟩, by omega, ?_⟩
  have H22 := mR_up (i := 31) (v := 103 + 22) (mR_nw (c' := 103 + 23) H21 (by omega) (by omega)) (k := 103) (by omega) (by omega)
  generalize jUp (jNw m21) 103 31 (103 + 22) = m22 at H22 ⊢
  refine gX11_init_178 (d + 0) 103 m22 Q ?_
  rw [H22.1, H22.2.1]
  refine ⟨⟨by omega, K23.1, K23.2⟩, by omega, ?_⟩
  have H23 := mR_up (i := 32) (v := 103 + 23) (mR_nw (c' := 103 + 24) H22 (by omega) (by omega)) (k := 103) (by omega) (by omega)
  generalize jUp (jNw m22) 103 32 (103 + 23) = m23 at H23 ⊢
  refine gX11_init_185 (d + 0) 103 m23 Q ?_
  rw [H23.1, H23.2.1]
  refine ⟨⟨by omega, K24.1, K24.2⟩, by omega, ?_⟩
  have H24 := mR_up (i := 40) (v := 103 + 24) (mR_nw (c' := 103 + 25) H23 (by omega) (by omega)) (k := 103) (by omega) (by omega)
  generalize jUp (jNw m23) 103 40 (103 + 24) = m24 at H24 ⊢
  refine gX11_init_193 (d + 0) 103 m24 Q ?_
  rw [H24.1, H24.2.1]
  refine ⟨⟨by omega, K25.1, K25.2⟩, by omega, ?_⟩
  have H25 := mR_up (i := 41) (v := 103 + 25) (mR_nw (c' := 103 + 26) H24 (by omega) (by omega)) (k := 103) (by omega) (by omega)
  generalize jUp (jNw m24) 103 41 (103 + 25) = m25 at H25 ⊢
  refine gX11_init_201 (d + 0) 103 m25 Q ?_
  rw [H25.1, H25.2.1]
  refine ⟨⟨by omega, K26.1, K26.2⟩, by omega, ?_⟩
  have H26 := mR_up (i := 42) (v := 103 + 26) (mR_nw (c' := 103 + 27) H25 (by omega) (by omega)) (k := 103) (by omega) (by omega)
  generalize jUp (jNw m25) 103 42 (103 + 26) = m26 at H26 ⊢
  refine gX11_init_210 (d + 0) 103 m26 Q ?_
  rw [H26.1, H26.2.1]
  refine ⟨⟨by omega, K27.1, K27.2⟩, by omega, ?_⟩
  have H27 := mR_up (i := 43) (v := 103 + 27) (mR_nw (c' := 103 + 28) H26 (by omega) (by omega)) (k := 103) (by omega) (by omega)
  generalize jUp (jNw m26) 103 43 (103 + 27) = m27 at H27 ⊢
  refine gX11_init_219 (d + 0) 103 m27 Q ?_
  rw [H27.1, H27.2.1]
  refine ⟨⟨by omega, K28.1, K28.2⟩, by omega, ?_⟩
  have H28 := mR_up (i := 44) (v := 103 + 28) (mR_nw (c' := 103 + 29) H27 (by omega) (by omega)) (k := 103) (by omega) (by omega)
  generalize jUp (jNw m27) 103 44 (103 + 28) = m28 at H28 ⊢
  refine gX11_init_227 (d + 0) 103 m28 Q ?_
  rw [H28.1, H28.2.1]
  refine ⟨⟨by omega, K29.1, K29.2⟩, by omega, ?_⟩
  have H29 := mR_up (i := 45) (v := 103 + 29) (mR_nw (c' := 103 + 30) H28 (by omega) (by omega)) (k := 103) (by omega) (by omega)
  generalize jUp (jNw m28) 103 45 (103 + 29) = m29 at H29 ⊢
  refine gX11_init_235 (d + 0) 103 m29 Q ?_
  rw [H29.1, H29.2.1]
  refine ⟨⟨by omega, K30.1, K30.2⟩, by omega, ?_⟩
  have H30 := mR_up (i := 46) (v := 103 + 30) (mR_nw (c' := 103 + 31) H29 (by omega) (by omega)) (k := 103) (by omega) (by omega)
  generalize jUp (jNw m29) 103 46 (103 + 30) = m30 at H30 ⊢
  refine gX11_init_243 (d + 0) 103 m30 Q ?_
  rw [H30.1, H30.2.1]
  refine ⟨⟨by omega, K31.1, K31.2⟩, by omega, ?_⟩
  have H31 := mR_up (i := 47) (v := 103 + 31) (mR_nw (c' := 103 + 32) H30 (by omega) (by omega)) (k := 103) (by omega) (by omega)
  generalize jUp (jNw m30) 103 47 (103 + 31) = m31 at H31 ⊢
  refine gX11_init_251 (d + 0) 103 m31 Q ?_
  rw [H31.1, H31.2.1]
  refine ⟨⟨by omega, K32.1, K32.2⟩, by omega, ?_⟩
  have H32 := mR_up (i := 49) (v := 103 + 32) (mR_nw (c' := 103 + 33) H31 (by omega) (by omega)) (k := 103) (by omega) (by omega)
  generalize jUp (jNw m31) 103 49 (103 + 32) = m32 at H32 ⊢
  refine gX11_init_260 (d + 0) 103 m32 Q ?_
  rw [H32.1, H32.2.1]
  refine ⟨⟨by omega, K33.1, K33.2⟩, by omega, ?_⟩
  have H33 := mR_up (i := 51) (v := 103 + 33) (mR_nw (c' := 103 + 34) H32 (by omega) (by omega)) (k := 103) (by omega) (by omega)
  generalize jUp (jNw m32) 103 51 (103 + 33) = m33 at H33 ⊢
  refine gX11_init_268 (d + 0) 103 m33 Q ?_
  rw [H33.1, H33.2.1]
  refine ⟨⟨by omega, K34.1, K34.2⟩, by omega, ?_⟩
  have H34 := mR_up (i := 52) (v := 103 + 34) (mR_nw (c' := 103 + 35) H33 (by omega) (by omega)) (k := 103) (by omega) (by omega)
  generalize jUp (jNw m33) 103 52 (103 + 34) = m34 at H34 ⊢
  refine gX11_init_276 (d + 0) 103 m34 Q ?_
  rw [H34.1, H34.2.1]
  refine ⟨⟨by omega, K35.1, K35.2⟩, by omega, ?_⟩
  have H35 := mR_up (i := 53) (v := 103 + 35) (mR_nw (c' := 103 + 36) H34 (by omega) (by omega)) (k := 103) (by omega) (by omega)
  generalize jUp (jNw m34) 103 53 (103 + 35) = m35 at H35 ⊢
  refine gX11_init_284 (d + 0) 103 m35 Q ?_
  rw [H35.1, H35.2.1]
  refine ⟨⟨by omega, K36.1, K36.2⟩, by omega, ?_⟩
  have H36 := mR_up (i := 54) (v := 103 + 36) (mR_nw (c' := 103 + 37) H35 (by omega) (by omega)) (k := 103) (by omega) (by omega)
  generalize jUp (jNw m35) 103 54 (103 + 36) = m36 at H36 ⊢
  refine gX11_init_292 (d + 0) 103 m36 Q ?_
  rw [H36.1, H36.2.1]
  refine ⟨⟨by omega, K37.1, K37.2⟩, by omega, ?_⟩
  have H37 := mR_up (i := 55) (v := 103 + 37) (mR_nw (c' := 103 + 38) H36 (by omega) (by omega)) (k := 103) (by omega) (by omega)
  generalize jUp (jNw m36) 103 55 (103 + 37) = m37 at H37 ⊢
  refine gX11_init_300 (d + 0) 103 m37 Q ?_
  rw [H37.1, H37.2.1]
  refine ⟨⟨by omega, K38.1, K38.2⟩, by omega, ?_⟩
  have H38 := mR_up (i := 56) (v := 103 + 38) (mR_nw (c' := 103 + 39) H37 (by omega) (by omega)) (k := 103) (by omega) (by omega)
  generalize jUp (jNw m37) 103 56 (103 + 38) = m38 at H38 ⊢
  refine gX11_init_308 (d + 0) 103 m38 Q ?_
  rw [H38.1, H38.2.1]
  refine ⟨⟨by omega, K39.1, K39.2⟩, by omega, ?_⟩
  have H39 := mR_up (i := 57) (v := 103 + 39) (mR_nw (c' := 103 + 40) H38 (by omega) (by omega)) (k := 103) (by omega) (by omega)
  generalize jUp (jNw m38) 103 57 (103 + 39) = m39 at H39 ⊢
  refine gX11_init_316 (d + 0) 103 m39 Q ?_
  rw [H39.1, H39.2.1]
  refine ⟨⟨by omega, K40.1, K40.2⟩, by omega, ?_⟩
  have H40 := mR_up (i := 58) (v := 103 + 40) (mR_nw (c' := 103 + 41) H39 (by omega) (by omega)) (k := 103) (by omega) (by omega)
  generalize jUp (jNw m39) 103 58 (103 + 40) = m40 at H40 ⊢
  refine gX11_init_325 (d + 0) 103 m40 Q ?_
  rw [H40.1, H40.2.1]
  refine ⟨⟨by omega, K41.1, K41.2⟩, by omega, ?_⟩
  have H41 := mR_up (i := 59) (v := 103 + 41) (mR_nw (c' := 103 + 42) H40 (by omega) (by omega)) (k := 103) (by omega) (by omega)
  generalize jUp (jNw m40) 103 59 (103 + 41) = m41 at H41 ⊢
  refine gX11_init_333 (d + 0) 103 m41 Q ?_
  rw [H41.1, H41.2.1]
  refine ⟨⟨by omega, K42.1, K42.2⟩, by omega, ?_⟩
  have H42 := mR_up (i := 60) (v := 103 + 42) (mR_nw (c' := 103 + 43) H41 (by omega) (by omega)) (k := 103) (by omega) (by omega)
  generalize jUp (jNw m41) 103 60 (103 + 42) = m42 at H42 ⊢
  refine gX11_init_341 (d + 0) 103 m42 Q ?_
  rw [H42.1, H42.2.1]
  refine ⟨⟨by omega, K43.1, K43.2⟩, by omega, ?_⟩
  have H43 := mR_up (i := 65) (v := 103 + 43) (mR_nw (c' := 103 + 44) H42 (by omega) (by omega)) (k := 103) (by omega) (by omega)
  generalize jUp (jNw m42) 103 65 (103 + 43) = m43 at H43 ⊢
  refine gX11_init_349 (d + 0) 103 m43 Q ?_
  rw [H43.1, H43.2.1]
  refine ⟨⟨by omega, K44.1, K44.2⟩, by omega, ?_⟩
  have H44 := mR_up (i := 66) (v := 103 + 44) (mR_nw (c' := 103 + 45) H43 (by omega) (by omega)) (k := 103) (by omega) (by omega)
  generalize jUp (jNw m43) 103 66 (103 + 44) = m44 at H44 ⊢
  refine gX11_init_357 (d + 0) 103 m44 Q ?_
  rw [H44.1, H44.2.1]
  refine ⟨⟨by omega, K45.1, K45.2⟩, by omega, ?_⟩
  have H45 := mR_up (i := 67) (v := 103 + 45) (mR_nw (c' := 103 + 46) H44 (by omega) (by omega)) (k := 103) (by omega) (by omega)
  generalize jUp (jNw m44) 103 67 (103 + 45) = m45 at H45 ⊢
  refine gX11_init_365 (d + 0) 103 m45 Q ?_
  rw [H45.1, H45.2.1]
  refine ⟨⟨by omega, K46.1, K46.2⟩, by omega, ?_⟩
  have H46 := mR_up (i := 69) (v := 103 + 46) (mR_nw (c' := 103 + 47) H45 (by omega) (by omega)) (k := 103) (by omega) (by omega)
  generalize jUp (jNw m45) 103 69 (103 + 46) = m46 at H46 ⊢
  refine gX11_init_373 (d + 0) 103 m46 Q ?_
  rw [H46.1, H46.2.1]
  refine ⟨⟨by omega, K47.1, K47.2⟩, by omega, ?_⟩
  have H47 := mR_up (i := 70) (v := 103 + 47) (mR_nw (c' := 103 + 48) H46 (by omega) (by omega)) (k := 103) (by omega) (by omega)
  generalize jUp (jNw m46) 103 70 (103 + 47) = m47 at H47 ⊢
  refine gX11_init_381 (d + 0) 103 m47 Q ?_
  rw [H47.1, H47.2.1]
  refine ⟨⟨by omega, K48.1, K48.2⟩, by omega, ?_⟩
  have H48 := mR_up (i := 71) (v := 103 + 48) (mR_nw (c' := 103 + 49) H47 (by omega) (by omega)) (k := 103) (by omega) (by omega)
  generalize jUp (jNw m47) 103 71 (103 + 48) = m48 at H48 ⊢
  refine gX11_init_389 (d + 0) 103 m48 Q ?_
  rw [H48.1, H48.2.1]
  refine ⟨⟨by omega, K49.1, K49.2⟩, by omega, ?_⟩
  have H49 := mR_up (i := 72) (v := 103 + 49) (mR_nw (c' := 103 + 50) H48 (by omega) (by omega)) (k := 103) (by omega) (by omega)
  generalize jUp (jNw m48) 103 72 (103 + 49) = m49 at H49 ⊢
  refine gX11_init_397 (d + 0) 103 m49 Q ?_
  rw [H49.1, H49.2.1]
  refine ⟨⟨by omega, K50.1, K50.2⟩, by omega, ?_⟩
  have H50 := mR_up (i := 73) (v := 103 + 50) (mR_nw (c' := 103 + 51) H49 (by omega) (by omega)) (k := 103) (by omega) (by omega)
  generalize jUp (jNw m49) 103 73 (103 + 50) = m50 at H50 ⊢
  refine gX11_init_404 (d + 0) 103 m50 Q ?_
  rw [H50.1, H50.2.1]
  refine ⟨⟨by omega, K51.1, K51.2⟩, by omega, ?_⟩
  have H51 := mR_up (i := 74) (v := 103 + 51) (mR_nw (c' := 103 + 52) H50 (by omega) (by omega)) (k := 103) (by omega) (by omega)
  generalize jUp (jNw m50) 103 74 (103 + 51) = m51 at H51 ⊢
  refine gX11_init_411 (d + 0) 103 m51 Q ?_
  rw [H51.1, H51.2.1]
  refine ⟨⟨by omega, K52.1, K52.2⟩, by omega, ?_⟩
  have H52 := mR_up (i := 75) (v := 103 + 52) (mR_nw (c' := 103 + 53) H51 (by omega) (by omega)) (k := 103) (by omega) (by omega)
  generalize jUp (jNw m51) 103 75 (103 + 52) = m52 at H52 ⊢
  refine gX11_init_419 (d + 0) 103 m52 Q ?_
  rw [H52.1, H52.2.1]
  refine ⟨⟨by omega, K53.1, K53.2⟩, by omega, ?_⟩
  have H53 := mR_up (i := 76) (v := 103 + 53) (mR_nw (c' := 103 + 54) H52 (by omega) (by omega)) (k := 103) (by omega) (by omega)
  generalize jUp (jNw m52) 103 76 (103 + 53) = m53 at H53 ⊢
  refine gX11_init_428 (d + 0) 103 m53 Q ?_
  rw [H53.1, H53.2.1]
  refine ⟨⟨by omega, K54.1, K54.2⟩, by omega, by omega, by omega, by omega, by omega, ?_⟩
  have H54 := mR_up (i := 77) (v := 103 + 54) (mR_up (i := 3) (v := -1) (mR_up (i := 2) (v := -1) (mR_up (i := 1) (v := -1) (mR_up (i := 0) (v := -1) (mR_nw (c' := 103 + 55) H53 (by omega) (by omega)) (k := 103 + 54) (by omega) (by omega)) (k := 103 + 54) (by omega) (by omega)) (k := 103 + 54) (by omega) (by omega)) (k := 103 + 54) (by omega) (by omega)) (k := 103) (by omega) (by omega)
  generalize jUp (jUp (jUp (jUp (jUp (jNw m53) (103 + 54) 0 (-1)) (103 + 54) 1 (-1)) (103 + 54) 2 (-1)) (103 + 54) 3 (-1)) 103 77 (103 + 54) = m54 at H54 ⊢
  refine gX11_init_451 (d + 0) 103 m54 Q ?_
  rw [H54.1, H54.2.1]
  refine ⟨⟨by omega, K55.1, K55.2⟩, by omega, ?_⟩
  have H55 := mR_up (i := 78) (v := 103 + 55) (mR_nw (c' := 103 + 56) H54 (by omega) (by omega)) (k := 103) (by omega) (by omega)
  generalize jUp (jNw m54) 103 78 (103 + 55) = m55 at H55 ⊢
  refine gX11_init_458 (d + 0) 103 m55 Q ?_
  rw [H55.1, H55.2.1]
  refine ⟨⟨by omega, K56.1, K56.2⟩, by omega, ?_⟩
  have H56 := mR_up (i := 79) (v := 103 + 56) (mR_nw (c' := 103 + 57) H55 (by omega) (by omega)) (k := 103) (by omega) (by omega)
  generalize jUp (jNw m55) 103 79 (103 + 56) = m56 at H56 ⊢
  refine gX11_init_467 (d + 0) 103 m56 Q ?_
  refine X11_loop (d := d + 0) (by omega) ((H56.2.2.2.2 103 3 (by omega) (by omega)).trans rfl) H56 (fun m57 H57 => ?_)
  refine gX11_init_490 (d + 0) m57 Q ⟨by rw [H57.1, H57.2.1], hQ _ H57⟩

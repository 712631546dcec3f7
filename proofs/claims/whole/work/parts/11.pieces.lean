/-! THE PIECES of the methods, by program (seg.py) -/
def aX0_init_4 (d : Nat) (p0 : Int) (m : jM) (Q : Int → jM → Prop) : Prop := jA (d + 1) zX0_init 4 [some (jO 0 p0), none] [] m Q
def aX0_init_9 (d : Nat) (p0 : Int) (m : jM) (Q : Int → jM → Prop) : Prop := jA (d + 1) zX0_init 9 [some (jO 0 p0), none] [] m Q
def aX0_init_14 (d : Nat) (p0 : Int) (m : jM) (Q : Int → jM → Prop) : Prop := jA (d + 1) zX0_init 14 [some (jO 0 p0), none] [] m Q
def aX0_init_22 (d : Nat) (p0 : Int) (m : jM) (Q : Int → jM → Prop) : Prop := jA (d + 1) zX0_init 22 [some (jO 0 p0), none] [] m Q
def aX0_init_30 (d : Nat) (p0 : Int) (m : jM) (Q : Int → jM → Prop) : Prop := jA (d + 1) zX0_init 30 [some (jO 0 p0), none] [] m Q
def aX0_init_38 (d : Nat) (p0 : Int) (m : jM) (Q : Int → jM → Prop) : Prop := jA (d + 1) zX0_init 38 [some (jO 0 p0), none] [] m Q
def aX0_init_46 (d : Nat) (p0 : Int) (m : jM) (Q : Int → jM → Prop) : Prop := jA (d + 1) zX0_init 46 [some (jO 0 p0), none] [] m Q
def aX0_init_53 (d : Nat) (p0 : Int) (m : jM) (Q : Int → jM → Prop) : Prop := jA (d + 1) zX0_init 53 [some (jO 0 p0), none] [] m Q
def aX0_init_63 (d : Nat) (p0 : Int) (m : jM) (Q : Int → jM → Prop) : Prop := jA (d + 1) zX0_init 63 [some (jO 0 p0), none] [] m Q
def aX0_init_65 (d : Nat) (p0 x1 : Int) (m : jM) (Q : Int → jM → Prop) : Prop := jA (d + 1) zX0_init 65 [some (jO 0 p0), some (jI x1)] [] m Q
def aX0_init_70 (d : Nat) (p0 x1 : Int) (m : jM) (Q : Int → jM → Prop) : Prop := jA (d + 1) zX0_init 70 [some (jO 0 p0), some (jI x1)] [] m Q
def aX0_init_83 (d : Nat) (p0 x1 : Int) (m : jM) (Q : Int → jM → Prop) : Prop := jA (d + 1) zX0_init 83 [some (jO 0 p0), some (jI x1)] [] m Q
def aX0_init_86 (d : Nat) (p0 x1 : Int) (m : jM) (Q : Int → jM → Prop) : Prop := jA (d + 1) zX0_init 86 [some (jO 0 p0), some (jI x1)] [] m Q
def aX0_init_89 (d : Nat) (m : jM) (Q : Int → jM → Prop) : Prop := jA (d + 1) zX0_init 89 [none, none] [] m Q
set_option maxRecDepth 100000 in
theorem gX0_init (d : Nat) (p0 : Int) (m : jM) (Q : Int → jM → Prop)
    (h : aX0_init_4 d p0 m Q) :
    jK (d + 1) zX0_init [jO 0 p0] m Q := jWp_sn0 [(4, [true, false]), (9, [true, false]), (14, [true, false]), (22, [true, false]), (30, [true, false]), (38, [true, false]), (46, [true, false]), (53, [true, false]), (63, [true, false]), (65, [true, true]), (70, [true, true]), (83, [true, true]), (86, [true, true]), (89, [false, false])] jcX0_init 3 rfl h
set_option maxRecDepth 100000 in
theorem gX0_init_4 (d : Nat) (p0 : Int) (m : jM) (Q : Int → jM → Prop)
    (h : aX0_init_9 d p0 (jUp m p0 0 0) Q) :
    aX0_init_4 d p0 m Q := jWp_snd [(4, [true, false]), (9, [true, false]), (14, [true, false]), (22, [true, false]), (30, [true, false]), (38, [true, false]), (46, [true, false]), (53, [true, false]), (63, [true, false]), (65, [true, true]), (70, [true, true]), (83, [true, true]), (86, [true, true]), (89, [false, false])] jcX0_init 4 rfl h
set_option maxRecDepth 100000 in
theorem gX0_init_9 (d : Nat) (p0 : Int) (m : jM) (Q : Int → jM → Prop)
    (h : aX0_init_14 d p0 (jUp m p0 1 0) Q) :
    aX0_init_9 d p0 m Q := jWp_snd [(4, [true, false]), (9, [true, false]), (14, [true, false]), (22, [true, false]), (30, [true, false]), (38, [true, false]), (46, [true, false]), (53, [true, false]), (63, [true, false]), (65, [true, true]), (70, [true, true]), (83, [true, true]), (86, [true, true]), (89, [false, false])] jcX0_init 4 rfl h
set_option maxRecDepth 100000 in
theorem gX0_init_14 (d : Nat) (p0 : Int) (m : jM) (Q : Int → jM → Prop)
    (h : (m (-3) 0 < m (-2) (-7) ∧ jKd (m (-3) 0) = 20 ∧ jLn (m (-3) 0) = 48) ∧ (m (-3) 0) = (p0 + 1) ∧ aX0_init_22 d p0 (jUp (jNw m) p0 2 (m (-3) 0)) Q) :
    aX0_init_14 d p0 m Q := jWp_snd [(4, [true, false]), (9, [true, false]), (14, [true, false]), (22, [true, false]), (30, [true, false]), (38, [true, false]), (46, [true, false]), (53, [true, false]), (63, [true, false]), (65, [true, true]), (70, [true, true]), (83, [true, true]), (86, [true, true]), (89, [false, false])] jcX0_init 5 rfl h
set_option maxRecDepth 100000 in
theorem gX0_init_22 (d : Nat) (p0 : Int) (m : jM) (Q : Int → jM → Prop)
    (h : (m (-3) 0 < m (-2) (-7) ∧ jKd (m (-3) 0) = 21 ∧ jLn (m (-3) 0) = 64) ∧ (m (-3) 0) = (p0 + 2) ∧ aX0_init_30 d p0 (jUp (jNw m) p0 3 (m (-3) 0)) Q) :
    aX0_init_22 d p0 m Q := jWp_snd [(4, [true, false]), (9, [true, false]), (14, [true, false]), (22, [true, false]), (30, [true, false]), (38, [true, false]), (46, [true, false]), (53, [true, false]), (63, [true, false]), (65, [true, true]), (70, [true, true]), (83, [true, true]), (86, [true, true]), (89, [false, false])] jcX0_init 5 rfl h
set_option maxRecDepth 100000 in
theorem gX0_init_30 (d : Nat) (p0 : Int) (m : jM) (Q : Int → jM → Prop)
    (h : (m (-3) 0 < m (-2) (-7) ∧ jKd (m (-3) 0) = 20 ∧ jLn (m (-3) 0) = 64) ∧ (m (-3) 0) = (p0 + 3) ∧ aX0_init_38 d p0 (jUp (jNw m) p0 4 (m (-3) 0)) Q) :
    aX0_init_30 d p0 m Q := jWp_snd [(4, [true, false]), (9, [true, false]), (14, [true, false]), (22, [true, false]), (30, [true, false]), (38, [true, false]), (46, [true, false]), (53, [true, false]), (63, [true, false]), (65, [true, true]), (70, [true, true]), (83, [true, true]), (86, [true, true]), (89, [false, false])] jcX0_init 5 rfl h
set_option maxRecDepth 100000 in
theorem gX0_init_38 (d : Nat) (p0 : Int) (m : jM) (Q : Int → jM → Prop)
    (h : (m (-3) 0 < m (-2) (-7) ∧ jKd (m (-3) 0) = 22 ∧ jLn (m (-3) 0) = 4) ∧ (m (-3) 0) = (p0 + 4) ∧ aX0_init_46 d p0 (jUp (jNw m) p0 5 (m (-3) 0)) Q) :
    aX0_init_38 d p0 m Q := jWp_snd [(4, [true, false]), (9, [true, false]), (14, [true, false]), (22, [true, false]), (30, [true, false]), (38, [true, false]), (46, [true, false]), (53, [true, false]), (63, [true, false]), (65, [true, true]), (70, [true, true]), (83, [true, true]), (86, [true, true]), (89, [false, false])] jcX0_init 5 rfl h
set_option maxRecDepth 100000 in
theorem gX0_init_46 (d : Nat) (p0 : Int) (m : jM) (Q : Int → jM → Prop)
    (h : (m (-3) 0 < m (-2) (-7) ∧ jKd (m (-3) 0) = 20 ∧ jLn (m (-3) 0) = 4) ∧ (m (-3) 0) = (p0 + 5) ∧ aX0_init_53 d p0 (jUp (jNw m) p0 6 (m (-3) 0)) Q) :
    aX0_init_46 d p0 m Q := jWp_snd [(4, [true, false]), (9, [true, false]), (14, [true, false]), (22, [true, false]), (30, [true, false]), (38, [true, false]), (46, [true, false]), (53, [true, false]), (63, [true, false]), (65, [true, true]), (70, [true, true]), (83, [true, true]), (86, [true, true]), (89, [false, false])] jcX0_init 5 rfl h
set_option maxRecDepth 100000 in
theorem gX0_init_53 (d : Nat) (p0 : Int) (m : jM) (Q : Int → jM → Prop)
    (h : m p0 3 = (p0 + 2) ∧ jK d zJ7_fill_d0a16 [jY 1 64 (p0 + 2), jL (-1)] m (fun v1 m1 => aX0_init_63 d p0 m1 Q)) :
    aX0_init_53 d p0 m Q := jWp_snd [(4, [true, false]), (9, [true, false]), (14, [true, false]), (22, [true, false]), (30, [true, false]), (38, [true, false]), (46, [true, false]), (53, [true, false]), (63, [true, false]), (65, [true, true]), (70, [true, true]), (83, [true, true]), (86, [true, true]), (89, [false, false])] jcX0_init 5 rfl h
set_option maxRecDepth 100000 in
theorem gX0_init_63 (d : Nat) (p0 : Int) (m : jM) (Q : Int → jM → Prop)
    (h : aX0_init_65 d p0 0 m Q) :
    aX0_init_63 d p0 m Q := jWp_snd [(4, [true, false]), (9, [true, false]), (14, [true, false]), (22, [true, false]), (30, [true, false]), (38, [true, false]), (46, [true, false]), (53, [true, false]), (63, [true, false]), (65, [true, true]), (70, [true, true]), (83, [true, true]), (86, [true, true]), (89, [false, false])] jcX0_init 3 rfl h
set_option maxRecDepth 100000 in
theorem gX0_init_65 (d : Nat) (p0 x1 : Int) (m : jM) (Q : Int → jM → Prop)
    (h : (x1 < 4 → aX0_init_70 d p0 x1 m Q) ∧ (¬ x1 < 4 → aX0_init_89 d  m Q)) :
    aX0_init_65 d p0 x1 m Q := jWp_snd [(4, [true, false]), (9, [true, false]), (14, [true, false]), (22, [true, false]), (30, [true, false]), (38, [true, false]), (46, [true, false]), (53, [true, false]), (63, [true, false]), (65, [true, true]), (70, [true, true]), (83, [true, true]), (86, [true, true]), (89, [false, false])] jcX0_init 4 rfl h
set_option maxRecDepth 100000 in
theorem gX0_init_70 (d : Nat) (p0 x1 : Int) (m : jM) (Q : Int → jM → Prop)
    (h : m p0 5 = (p0 + 4) ∧ (m (-3) 0 < m (-2) (-7) ∧ jKd (m (-3) 0) = 6) ∧ (jNw m) (-3) 0 + 3 ≤ (jNw m) (-2) (-7) ∧ jK d zX6_init [jO 6 (m (-3) 0)] (jLim (jNw m) zX6_init) (fun v1 m1 => ((0 : Int) ≤ x1 ∧ (x1 : Int) < 4) ∧ aX0_init_83 d p0 x1 (jUp (jUp m1 (-2) (-7) ((jNw m) (-2) (-7))) (p0 + 4) x1 (m (-3) 0)) Q)) :
    aX0_init_70 d p0 x1 m Q := jWp_snd [(4, [true, false]), (9, [true, false]), (14, [true, false]), (22, [true, false]), (30, [true, false]), (38, [true, false]), (46, [true, false]), (53, [true, false]), (63, [true, false]), (65, [true, true]), (70, [true, true]), (83, [true, true]), (86, [true, true]), (89, [false, false])] jcX0_init 8 rfl h
set_option maxRecDepth 100000 in
theorem gX0_init_83 (d : Nat) (p0 x1 : Int) (m : jM) (Q : Int → jM → Prop)
    (h : aX0_init_86 d p0 (w32 (x1 + 1)) m Q) :
    aX0_init_83 d p0 x1 m Q := jWp_snd [(4, [true, false]), (9, [true, false]), (14, [true, false]), (22, [true, false]), (30, [true, false]), (38, [true, false]), (46, [true, false]), (53, [true, false]), (63, [true, false]), (65, [true, true]), (70, [true, true]), (83, [true, true]), (86, [true, true]), (89, [false, false])] jcX0_init 2 rfl h
set_option maxRecDepth 100000 in
theorem gX0_init_86 (d : Nat) (p0 x1 : Int) (m : jM) (Q : Int → jM → Prop)
    (h : aX0_init_65 d p0 x1 m Q) :
    aX0_init_86 d p0 x1 m Q := jWp_snd [(4, [true, false]), (9, [true, false]), (14, [true, false]), (22, [true, false]), (30, [true, false]), (38, [true, false]), (46, [true, false]), (53, [true, false]), (63, [true, false]), (65, [true, true]), (70, [true, true]), (83, [true, true]), (86, [true, true]), (89, [false, false])] jcX0_init 2 rfl h
set_option maxRecDepth 100000 in
theorem gX0_init_89 (d : Nat) (m : jM) (Q : Int → jM → Prop)
    (h : m (-3) 0 = m (-2) (-7) ∧ Q 0 m) :
    aX0_init_89 d  m Q := jWp_snd [(4, [true, false]), (9, [true, false]), (14, [true, false]), (22, [true, false]), (30, [true, false]), (38, [true, false]), (46, [true, false]), (53, [true, false]), (63, [true, false]), (65, [true, true]), (70, [true, true]), (83, [true, true]), (86, [true, true]), (89, [false, false])] jcX0_init 2 rfl h
def aX0_take_66 (d : Nat) (p0 p1 x2 : Int) (m : jM) (Q : Int → jM → Prop) : Prop := jA (d + 1) zX0_take 66 [some (jO 0 p0), some (jO 0 p1), some (jI x2)] [] m Q
set_option maxRecDepth 100000 in
theorem gX0_take (d : Nat) (p0 p1 : Int) (m : jM) (Q : Int → jM → Prop)
    (h : ((0 : Int) ≤ 0 ∧ (0 : Int) ≤ 0 ∧ (0 : Int) ≤ 48 ∧ (0 : Int) + 48 ≤ 48 ∧ (0 : Int) + 48 ≤ 48) ∧ ((0 : Int) ≤ 0 ∧ (0 : Int) ≤ 0 ∧ (0 : Int) ≤ 64 ∧ (0 : Int) + 64 ≤ 64 ∧ (0 : Int) + 64 ≤ 64) ∧ ((0 : Int) ≤ 0 ∧ (0 : Int) ≤ 0 ∧ (0 : Int) ≤ 64 ∧ (0 : Int) + 64 ≤ 64 ∧ (0 : Int) + 64 ≤ 64) ∧ aX0_take_66 d p0 p1 0 (jCp (jCp (jCp (jUp (jUp m p0 0 (m p1 0)) p0 1 ((jUp m p0 0 (m p1 0)) p1 1)) (p1 + 1) 0 (p0 + 1) 0 48) (p1 + 2) 0 (p0 + 2) 0 64) (p1 + 3) 0 (p0 + 3) 0 64) Q) :
    jK (d + 1) zX0_take [jO 0 p0, jO 0 p1] m Q := jWp_sn0 [(66, [true, true, true])] jcX0_take 37 rfl h
set_option maxRecDepth 100000 in
theorem gX0_take_66 (d : Nat) (p0 p1 x2 : Int) (m : jM) (Q : Int → jM → Prop)
    (h : (x2 < 4 → ((0 : Int) ≤ x2 ∧ (x2 : Int) < 4) ∧ ((0 : Int) ≤ x2 ∧ (x2 : Int) < 4) ∧ jK d zX6_take [jO 6 (m (p0 + 4) x2), jO 6 (m (p1 + 4) x2)] m (fun v1 m1 => aX0_take_66 d p0 p1 (w32 (x2 + 1)) m1 Q)) ∧ (¬ x2 < 4 → Q 0 m)) :
    aX0_take_66 d p0 p1 x2 m Q := jWp_snd [(66, [true, true, true])] jcX0_take 15 rfl h
set_option maxRecDepth 100000 in
theorem gX0_seat (d : Nat) (x1 x2 x3 : Int) (m : jM) (Q : Int → jM → Prop)
    (h : (x1 = 0 → (x1 = 0 → Q (iAnd (iShr (m 1 0) x2) 1) (jUp m 1 0 (iOr (iAnd (m 1 0) (iXor (iShl 1 x2) (-1))) (iShl x3 x2)))) ∧ (¬ x1 = 0 → Q (iAnd (iShr (m 1 0) x2) 1) (jUp m 1 1 (iOr (iAnd (m 1 0) (iXor (iShl 1 x2) (-1))) (iShl x3 x2))))) ∧ (¬ x1 = 0 → (x1 = 0 → Q (iAnd (iShr (m 1 1) x2) 1) (jUp m 1 0 (iOr (iAnd (m 1 1) (iXor (iShl 1 x2) (-1))) (iShl x3 x2)))) ∧ (¬ x1 = 0 → Q (iAnd (iShr (m 1 1) x2) 1) (jUp m 1 1 (iOr (iAnd (m 1 1) (iXor (iShl 1 x2) (-1))) (iShl x3 x2)))))) :
    jK (d + 1) zX0_seat [jO 0 1, jI x1, jI x2, jI x3] m Q := jWp_sn0 [] jcX0_seat 33 rfl h
set_option maxRecDepth 100000 in
theorem gX0_isIn (d : Nat) (x1 : Int) (m : jM) (Q : Int → jM → Prop)
    (h : (8 : Int) ≠ 0 ∧ (8 : Int) ≠ 0 ∧ ((iAnd (iAnd (iShr (m 1 0) (iDiv x1 8)) (iShr (m 1 1) (iRem x1 8))) 1) = 1 → Q 1 m) ∧ (¬ (iAnd (iAnd (iShr (m 1 0) (iDiv x1 8)) (iShr (m 1 1) (iRem x1 8))) 1) = 1 → Q 0 m)) :
    jK (d + 1) zX0_isIn [jO 0 1, jI x1] m Q := jWp_sn0 [] jcX0_isIn 21 rfl h
def aX0_forcedBeside_2 (d : Nat) (x1 x2 : Int) (m : jM) (Q : Int → jM → Prop) : Prop := jA (d + 1) zX0_forcedBeside 2 [some (jO 0 1), some (jI x1), some (jI x2), none] [] m Q
def aX0_forcedBeside_30 (d : Nat) (x1 x2 : Int) (m : jM) (Q : Int → jM → Prop) : Prop := jA (d + 1) zX0_forcedBeside 30 [some (jO 0 1), some (jI x1), some (jI x2), none] [] m Q
set_option maxRecDepth 100000 in
theorem gX0_forcedBeside (d : Nat) (x1 : Int) (m : jM) (Q : Int → jM → Prop)
    (h : aX0_forcedBeside_2 d x1 0 m Q) :
    jK (d + 1) zX0_forcedBeside [jO 0 1, jI x1] m Q := jWp_sn0 [(2, [true, true, true, false]), (30, [true, true, true, false])] jcX0_forcedBeside 3 rfl h
set_option maxRecDepth 100000 in
theorem gX0_forcedBeside_2 (d : Nat) (x1 x2 : Int) (m : jM) (Q : Int → jM → Prop)
    (h : (x2 < 64 → (8 : Int) ≠ 0 ∧ (8 : Int) ≠ 0 ∧ ((iDiv x2 8) = (iDiv x1 8) → aX0_forcedBeside_30 d x1 x2 m Q) ∧ (¬ (iDiv x2 8) = (iDiv x1 8) → (8 : Int) ≠ 0 ∧ (8 : Int) ≠ 0 ∧ ((iRem x2 8) = (iRem x1 8) → aX0_forcedBeside_30 d x1 x2 m Q) ∧ (¬ (iRem x2 8) = (iRem x1 8) → (x2 = x1 → aX0_forcedBeside_2 d x1 (w32 (x2 + 1)) m Q) ∧ (¬ x2 = x1 → ((0 : Int) = 0 → aX0_forcedBeside_2 d x1 (w32 (x2 + 1)) m Q) ∧ (¬ (0 : Int) = 0 → ((0 : Int) ≤ x2 ∧ (x2 : Int) < 64) ∧ ((m 4 x2) = 2 → Q 1 m) ∧ (¬ (m 4 x2) = 2 → aX0_forcedBeside_2 d x1 (w32 (x2 + 1)) m Q)))))) ∧ (¬ x2 < 64 → Q 0 m)) :
    aX0_forcedBeside_2 d x1 x2 m Q := jWp_snd [(2, [true, true, true, false]), (30, [true, true, true, false])] jcX0_forcedBeside 33 rfl h
set_option maxRecDepth 100000 in
theorem gX0_forcedBeside_30 (d : Nat) (x1 x2 : Int) (m : jM) (Q : Int → jM → Prop)
    (h : (x2 = x1 → aX0_forcedBeside_2 d x1 (w32 (x2 + 1)) m Q) ∧ (¬ x2 = x1 → ((1 : Int) = 0 → aX0_forcedBeside_2 d x1 (w32 (x2 + 1)) m Q) ∧ (¬ (1 : Int) = 0 → ((0 : Int) ≤ x2 ∧ (x2 : Int) < 64) ∧ ((m 4 x2) = 2 → Q 1 m) ∧ (¬ (m 4 x2) = 2 → aX0_forcedBeside_2 d x1 (w32 (x2 + 1)) m Q)))) :
    aX0_forcedBeside_30 d x1 x2 m Q := jWp_snd [(2, [true, true, true, false]), (30, [true, true, true, false])] jcX0_forcedBeside 17 rfl h
def aX0_marked_4 (d : Nat) (x1 x2 x3 : Int) (m : jM) (Q : Int → jM → Prop) : Prop := jA (d + 1) zX0_marked 4 [some (jO 0 1), some (jI x1), some (jI x2), some (jI x3)] [] m Q
set_option maxRecDepth 100000 in
theorem gX0_marked (d : Nat) (x1 : Int) (m : jM) (Q : Int → jM → Prop)
    (h : aX0_marked_4 d x1 0 0 m Q) :
    jK (d + 1) zX0_marked [jO 0 1, jI x1] m Q := jWp_sn0 [(4, [true, true, true, true])] jcX0_marked 5 rfl h
set_option maxRecDepth 100000 in
theorem gX0_marked_4 (d : Nat) (x1 x2 x3 : Int) (m : jM) (Q : Int → jM → Prop)
    (h : (x3 < 64 → ((0 : Int) ≤ x3 ∧ (x3 : Int) < 64) ∧ ((m 4 x3) = x1 → aX0_marked_4 d x1 (w32 (x2 + 1)) (w32 (x3 + 1)) m Q) ∧ (¬ (m 4 x3) = x1 → aX0_marked_4 d x1 (w32 (x2 + 0)) (w32 (x3 + 1)) m Q)) ∧ (¬ x3 < 64 → Q x2 m)) :
    aX0_marked_4 d x1 x2 x3 m Q := jWp_snd [(4, [true, true, true, true])] jcX0_marked 17 rfl h
def aX0_owned_4 (d : Nat) (x1 x2 : Int) (m : jM) (Q : Int → jM → Prop) : Prop := jA (d + 1) zX0_owned 4 [some (jO 0 1), some (jI x1), some (jI x2)] [] m Q
set_option maxRecDepth 100000 in
theorem gX0_owned (d : Nat) (m : jM) (Q : Int → jM → Prop)
    (h : aX0_owned_4 d 0 0 m Q) :
    jK (d + 1) zX0_owned [jO 0 1] m Q := jWp_sn0 [(4, [true, true, true])] jcX0_owned 5 rfl h
set_option maxRecDepth 100000 in
theorem gX0_owned_4 (d : Nat) (x1 x2 : Int) (m : jM) (Q : Int → jM → Prop)
    (h : (x2 < 64 → ((0 : Int) ≤ x2 ∧ (x2 : Int) < 64) ∧ ((m 3 x2) = (-1) → aX0_owned_4 d (w32 (x1 + 0)) (w32 (x2 + 1)) m Q) ∧ (¬ (m 3 x2) = (-1) → aX0_owned_4 d (w32 (x1 + 1)) (w32 (x2 + 1)) m Q)) ∧ (¬ x2 < 64 → Q x1 m)) :
    aX0_owned_4 d x1 x2 m Q := jWp_snd [(4, [true, true, true])] jcX0_owned 17 rfl h
def aX0_namersOf_4 (d : Nat) (x1 x2 x3 : Int) (m : jM) (Q : Int → jM → Prop) : Prop := jA (d + 1) zX0_namersOf 4 [some (jO 0 1), some (jI x1), some (jI x2), some (jI x3)] [] m Q
set_option maxRecDepth 100000 in
theorem gX0_namersOf (d : Nat) (x1 : Int) (m : jM) (Q : Int → jM → Prop)
    (h : aX0_namersOf_4 d x1 0 0 m Q) :
    jK (d + 1) zX0_namersOf [jO 0 1, jI x1] m Q := jWp_sn0 [(4, [true, true, true, true])] jcX0_namersOf 5 rfl h
set_option maxRecDepth 100000 in
theorem gX0_namersOf_4 (d : Nat) (x1 x2 x3 : Int) (m : jM) (Q : Int → jM → Prop)
    (h : (x3 < 4 → ((0 : Int) ≤ x3 ∧ (x3 : Int) < 4) ∧ jK d zX6_names [jO 6 (m 5 x3)] m (fun v1 m1 => aX0_namersOf_4 d x1 (iOr x2 (iShl (iAnd (iShr v1 x1) 1) x3)) (w32 (x3 + 1)) m1 Q)) ∧ (¬ x3 < 4 → Q x2 m)) :
    aX0_namersOf_4 d x1 x2 x3 m Q := jWp_snd [(4, [true, true, true, true])] jcX0_namersOf 20 rfl h
def aX0_reachOf_12 (d : Nat) (x2 x3 : Int) (m : jM) (Q : Int → jM → Prop) : Prop := jA (d + 1) zX0_reachOf 12 [some (jO 0 1), none, some (jI x2), some (jI x3), none] [] m Q
def aX0_reachOf_20 (d : Nat) (x2 x3 x4 : Int) (m : jM) (Q : Int → jM → Prop) : Prop := jA (d + 1) zX0_reachOf 20 [some (jO 0 1), none, some (jI x2), some (jI x3), some (jI x4)] [] m Q
set_option maxRecDepth 100000 in
theorem gX0_reachOf (d : Nat) (x1 : Int) (m : jM) (Q : Int → jM → Prop)
    (h : ((0 : Int) ≤ x1 ∧ (x1 : Int) < 4) ∧ jK d zX6_names [jO 6 (m 5 x1)] m (fun v1 m1 => aX0_reachOf_12 d v1 0 m1 Q)) :
    jK (d + 1) zX0_reachOf [jO 0 1, jI x1] m Q := jWp_sn0 [(12, [true, false, true, true, false]), (20, [true, false, true, true, true])] jcX0_reachOf 9 rfl h
set_option maxRecDepth 100000 in
theorem gX0_reachOf_12 (d : Nat) (x2 x3 : Int) (m : jM) (Q : Int → jM → Prop)
    (h : (x3 < 4 → aX0_reachOf_20 d x2 x3 0 m Q) ∧ (¬ x3 < 4 → Q x2 m)) :
    aX0_reachOf_12 d x2 x3 m Q := jWp_snd [(12, [true, false, true, true, false]), (20, [true, false, true, true, true])] jcX0_reachOf 6 rfl h
set_option maxRecDepth 100000 in
theorem gX0_reachOf_20 (d : Nat) (x2 x3 x4 : Int) (m : jM) (Q : Int → jM → Prop)
    (h : (x4 < 4 → ((iAnd (iShr x2 x4) 1) = 1 → ((0 : Int) ≤ x4 ∧ (x4 : Int) < 4) ∧ jK d zX6_names [jO 6 (m 5 x4)] m (fun v1 m1 => aX0_reachOf_20 d (iOr x2 v1) x3 (w32 (x4 + 1)) m1 Q)) ∧ (¬ (iAnd (iShr x2 x4) 1) = 1 → aX0_reachOf_20 d x2 x3 (w32 (x4 + 1)) m Q)) ∧ (¬ x4 < 4 → aX0_reachOf_12 d x2 (w32 (x3 + 1)) m Q)) :
    aX0_reachOf_20 d x2 x3 x4 m Q := jWp_snd [(12, [true, false, true, true, false]), (20, [true, false, true, true, true])] jcX0_reachOf 21 rfl h
def aX0_weighRules_10 (d : Nat) (x1 : Int) (m : jM) (Q : Int → jM → Prop) : Prop := jA (d + 1) zX0_weighRules 10 [some (jO 0 1), some (jI x1), none] [] m Q
def aX0_weighRules_17 (d : Nat) (x1 x2 : Int) (m : jM) (Q : Int → jM → Prop) : Prop := jA (d + 1) zX0_weighRules 17 [some (jO 0 1), some (jI x1), some (jI x2)] [] m Q
set_option maxRecDepth 100000 in
theorem gX0_weighRules (d : Nat) (m : jM) (Q : Int → jM → Prop)
    (h : jK d zJ7_fill_53178 [jY 0 4 6, jI 0] m (fun v1 m1 => aX0_weighRules_10 d 0 m1 Q)) :
    jK (d + 1) zX0_weighRules [jO 0 1] m Q := jWp_sn0 [(10, [true, true, false]), (17, [true, true, true])] jcX0_weighRules 7 rfl h
set_option maxRecDepth 100000 in
theorem gX0_weighRules_10 (d : Nat) (x1 : Int) (m : jM) (Q : Int → jM → Prop)
    (h : (x1 < 4 → aX0_weighRules_17 d x1 0 m Q) ∧ (¬ x1 < 4 → Q 0 m)) :
    aX0_weighRules_10 d x1 m Q := jWp_snd [(10, [true, true, false]), (17, [true, true, true])] jcX0_weighRules 6 rfl h
set_option maxRecDepth 100000 in
theorem gX0_weighRules_17 (d : Nat) (x1 x2 : Int) (m : jM) (Q : Int → jM → Prop)
    (h : (x2 < 4 → ((0 : Int) ≤ x2 ∧ (x2 : Int) < 4) ∧ jK d zX6_weightBy [jO 6 (m 5 x2), jY 0 4 6] m (fun v1 m1 => ((0 : Int) ≤ x2 ∧ (x2 : Int) < 4) ∧ aX0_weighRules_17 d x1 (w32 (x2 + 1)) (jUp m1 6 x2 v1) Q)) ∧ (¬ x2 < 4 → aX0_weighRules_10 d (w32 (x1 + 1)) m Q)) :
    aX0_weighRules_17 d x1 x2 m Q := jWp_snd [(10, [true, true, false]), (17, [true, true, true])] jcX0_weighRules 17 rfl h
def aX0_refusalOf_22 (d : Nat) (x2 : Int) (m : jM) (Q : Int → jM → Prop) : Prop := jA (d + 1) zX0_refusalOf 22 [some (jO 0 1), none, some (jI x2)] [] m Q
set_option maxRecDepth 100000 in
theorem gX0_refusalOf (d : Nat) (x1 : Int) (m : jM) (Q : Int → jM → Prop)
    (h : jK d zX0_reachOf [jO 0 1, jI x1] m (fun v1 m1 => ((iAnd (iShr v1 x1) 1) = 1 → Q (-5) m1) ∧ (¬ (iAnd (iShr v1 x1) 1) = 1 → jK d zX0_weighRules [jO 0 1] m1 (fun v2 m2 => aX0_refusalOf_22 d 0 m2 Q)))) :
    jK (d + 1) zX0_refusalOf [jO 0 1, jI x1] m Q := jWp_sn0 [(22, [true, false, true])] jcX0_refusalOf 14 rfl h
set_option maxRecDepth 100000 in
theorem gX0_refusalOf_22 (d : Nat) (x2 : Int) (m : jM) (Q : Int → jM → Prop)
    (h : (x2 < 4 → ((0 : Int) ≤ x2 ∧ (x2 : Int) < 4) ∧ (60 < (m 6 x2) → Q (-4) m) ∧ (¬ 60 < (m 6 x2) → aX0_refusalOf_22 d (w32 (x2 + 1)) m Q)) ∧ (¬ x2 < 4 → Q 0 m)) :
    aX0_refusalOf_22 d x2 m Q := jWp_snd [(22, [true, false, true])] jcX0_refusalOf 12 rfl h
def aX1_init_4 (d : Nat) (p0 : Int) (m : jM) (Q : Int → jM → Prop) : Prop := jA (d + 1) zX1_init 4 [some (jO 1 p0)] [] m Q
def aX1_init_9 (d : Nat) (p0 : Int) (m : jM) (Q : Int → jM → Prop) : Prop := jA (d + 1) zX1_init 9 [some (jO 1 p0)] [] m Q
def aX1_init_17 (d : Nat) (p0 : Int) (m : jM) (Q : Int → jM → Prop) : Prop := jA (d + 1) zX1_init 17 [some (jO 1 p0)] [] m Q
def aX1_init_25 (d : Nat) (p0 : Int) (m : jM) (Q : Int → jM → Prop) : Prop := jA (d + 1) zX1_init 25 [some (jO 1 p0)] [] m Q
def aX1_init_33 (d : Nat) (p0 : Int) (m : jM) (Q : Int → jM → Prop) : Prop := jA (d + 1) zX1_init 33 [some (jO 1 p0)] [] m Q
def aX1_init_41 (d : Nat) (m : jM) (Q : Int → jM → Prop) : Prop := jA (d + 1) zX1_init 41 [none] [] m Q
set_option maxRecDepth 100000 in
theorem gX1_init (d : Nat) (p0 : Int) (m : jM) (Q : Int → jM → Prop)
    (h : aX1_init_4 d p0 m Q) :
    jK (d + 1) zX1_init [jO 1 p0] m Q := jWp_sn0 [(4, [true]), (9, [true]), (17, [true]), (25, [true]), (33, [true]), (41, [false])] jcX1_init 3 rfl h
set_option maxRecDepth 100000 in
theorem gX1_init_4 (d : Nat) (p0 : Int) (m : jM) (Q : Int → jM → Prop)
    (h : aX1_init_9 d p0 (jUp m p0 0 0) Q) :
    aX1_init_4 d p0 m Q := jWp_snd [(4, [true]), (9, [true]), (17, [true]), (25, [true]), (33, [true]), (41, [false])] jcX1_init 4 rfl h
set_option maxRecDepth 100000 in
theorem gX1_init_9 (d : Nat) (p0 : Int) (m : jM) (Q : Int → jM → Prop)
    (h : (m (-3) 0 < m (-2) (-7) ∧ jKd (m (-3) 0) = 21 ∧ jLn (m (-3) 0) = 8) ∧ (m (-3) 0) = (p0 + 1) ∧ aX1_init_17 d p0 (jUp (jNw m) p0 1 (m (-3) 0)) Q) :
    aX1_init_9 d p0 m Q := jWp_snd [(4, [true]), (9, [true]), (17, [true]), (25, [true]), (33, [true]), (41, [false])] jcX1_init 5 rfl h
set_option maxRecDepth 100000 in
theorem gX1_init_17 (d : Nat) (p0 : Int) (m : jM) (Q : Int → jM → Prop)
    (h : (m (-3) 0 < m (-2) (-7) ∧ jKd (m (-3) 0) = 20 ∧ jLn (m (-3) 0) = 64) ∧ (m (-3) 0) = (p0 + 2) ∧ aX1_init_25 d p0 (jUp (jNw m) p0 2 (m (-3) 0)) Q) :
    aX1_init_17 d p0 m Q := jWp_snd [(4, [true]), (9, [true]), (17, [true]), (25, [true]), (33, [true]), (41, [false])] jcX1_init 5 rfl h
set_option maxRecDepth 100000 in
theorem gX1_init_25 (d : Nat) (p0 : Int) (m : jM) (Q : Int → jM → Prop)
    (h : (m (-3) 0 < m (-2) (-7) ∧ jKd (m (-3) 0) = 20 ∧ jLn (m (-3) 0) = 8) ∧ (m (-3) 0) = (p0 + 3) ∧ aX1_init_33 d p0 (jUp (jNw m) p0 3 (m (-3) 0)) Q) :
    aX1_init_25 d p0 m Q := jWp_snd [(4, [true]), (9, [true]), (17, [true]), (25, [true]), (33, [true]), (41, [false])] jcX1_init 5 rfl h
set_option maxRecDepth 100000 in
theorem gX1_init_33 (d : Nat) (p0 : Int) (m : jM) (Q : Int → jM → Prop)
    (h : (m (-3) 0 < m (-2) (-7) ∧ jKd (m (-3) 0) = 20 ∧ jLn (m (-3) 0) = 64) ∧ (m (-3) 0) = (p0 + 4) ∧ aX1_init_41 d  (jUp (jNw m) p0 4 (m (-3) 0)) Q) :
    aX1_init_33 d p0 m Q := jWp_snd [(4, [true]), (9, [true]), (17, [true]), (25, [true]), (33, [true]), (41, [false])] jcX1_init 5 rfl h
set_option maxRecDepth 100000 in
theorem gX1_init_41 (d : Nat) (m : jM) (Q : Int → jM → Prop)
    (h : m (-3) 0 = m (-2) (-7) ∧ Q 0 m) :
    aX1_init_41 d  m Q := jWp_snd [(4, [true]), (9, [true]), (17, [true]), (25, [true]), (33, [true]), (41, [false])] jcX1_init 2 rfl h
def aX1_write_28 (d : Nat) (x4 x5 : Int) (m : jM) (Q : Int → jM → Prop) : Prop := jA (d + 1) zX1_write 28 [some (jO 1 88), none, some (jO 4 62), none, some (jI x4), some (jI x5)] [] m Q
set_option maxRecDepth 100000 in
theorem gX1_write (d : Nat) (n3 y3 : Int) (m : jM) (Q : Int → jM → Prop)
    (h : ((0 : Int) ≤ 0 ∧ (0 : Int) ≤ 0 ∧ (0 : Int) ≤ 64 ∧ (0 : Int) + 64 ≤ n3 ∧ (0 : Int) + 64 ≤ 64) ∧ jK d zX4_take [jO 4 62, jO 4 54] (jCp m y3 0 92 0 64) (fun v1 m1 => aX1_write_28 d 0 0 (jUp m1 88 0 0) Q)) :
    jK (d + 1) zX1_write [jO 1 88, jO 4 54, jO 4 62, jY 0 n3 y3] m Q := jWp_sn0 [(28, [true, false, true, false, true, true])] jcX1_write 18 rfl h
set_option maxRecDepth 100000 in
theorem gX1_write_28 (d : Nat) (x4 x5 : Int) (m : jM) (Q : Int → jM → Prop)
    (h : (x5 < 8 → (x4 = 0 → jK d zX4_openBy [jO 4 62, jY 0 64 92] m (fun v1 m1 => jK d zX4_weigh [jO 4 62, jI 0] m1 (fun v2 m2 => ((0 : Int) ≤ 0 ∧ (0 : Int) < 256) ∧ ((m2 66 0) = (-4611686018427387904) → ((1 : Int) = 0 → jK d zX1_hear [jO 1 88, jO 4 62, jI x5] m2 (fun v3 m3 => aX1_write_28 d 1 (w32 (x5 + 1)) m3 Q)) ∧ (¬ (1 : Int) = 0 → aX1_write_28 d 1 (w32 (x5 + 1)) m2 Q)) ∧ (¬ (m2 66 0) = (-4611686018427387904) → ((0 : Int) = 0 → jK d zX1_hear [jO 1 88, jO 4 62, jI x5] m2 (fun v4 m4 => aX1_write_28 d 0 (w32 (x5 + 1)) m4 Q)) ∧ (¬ (0 : Int) = 0 → aX1_write_28 d 0 (w32 (x5 + 1)) m2 Q))))) ∧ (¬ x4 = 0 → Q 0 m)) ∧ (¬ x5 < 8 → Q 0 m)) :
    aX1_write_28 d x4 x5 m Q := jWp_snd [(28, [true, false, true, false, true, true])] jcX1_write 30 rfl h
def aX1_hear_30 (d : Nat) (x2 x3 : Int) (m : jM) (Q : Int → jM → Prop) : Prop := jA (d + 1) zX1_hear 30 [some (jO 1 88), none, some (jI x2), some (jI x3), none] [] m Q
set_option maxRecDepth 100000 in
theorem gX1_hear (d : Nat) (x2 : Int) (m : jM) (Q : Int → jM → Prop)
    (h : jK d zX4_pick [jO 4 54, jI 0, jY 0 8 91] m (fun v1 m1 => ((0 : Int) ≤ 0 ∧ (0 : Int) < 256) ∧ ((0 : Int) ≤ x2 ∧ (x2 : Int) < 8) ∧ aX1_hear_30 d x2 0 (jUp (jUp m1 89 x2 (m1 58 0)) 88 0 (w32 (x2 + 1))) Q)) :
    jK (d + 1) zX1_hear [jO 1 88, jO 4 54, jI x2] m Q := jWp_sn0 [(30, [true, false, true, true, false])] jcX1_hear 21 rfl h
set_option maxRecDepth 100000 in
theorem gX1_hear_30 (d : Nat) (x2 x3 : Int) (m : jM) (Q : Int → jM → Prop)
    (h : (x3 < 8 → ((0 : Int) ≤ x3 ∧ (x3 : Int) < 8) ∧ ((0 : Int) ≤ (w32 ((w32 (x2 * 8)) + x3)) ∧ ((w32 ((w32 (x2 * 8)) + x3)) : Int) < 64) ∧ ((m 91 x3) = (-1) → aX1_hear_30 d x2 (w32 (x3 + 1)) (jUp m 90 (w32 ((w32 (x2 * 8)) + x3)) (m 91 x3)) Q) ∧ (¬ (m 91 x3) = (-1) → ((0 : Int) ≤ (w32 ((w32 ((m 91 x3) * 8)) + x3)) ∧ ((w32 ((w32 ((m 91 x3) * 8)) + x3)) : Int) < 64) ∧ aX1_hear_30 d x2 (w32 (x3 + 1)) (jUp (jUp m 90 (w32 ((w32 (x2 * 8)) + x3)) (m 91 x3)) 92 (w32 ((w32 ((m 91 x3) * 8)) + x3)) 1) Q)) ∧ (¬ x3 < 8 → Q 0 m)) :
    aX1_hear_30 d x2 x3 m Q := jWp_snd [(30, [true, false, true, true, false])] jcX1_hear 32 rfl h
def aX2_init_4 (d : Nat) (p0 : Int) (m : jM) (Q : Int → jM → Prop) : Prop := jA (d + 1) zX2_init 4 [some (jO 2 p0)] [] m Q
def aX2_init_9 (d : Nat) (p0 : Int) (m : jM) (Q : Int → jM → Prop) : Prop := jA (d + 1) zX2_init 9 [some (jO 2 p0)] [] m Q
def aX2_init_14 (d : Nat) (p0 : Int) (m : jM) (Q : Int → jM → Prop) : Prop := jA (d + 1) zX2_init 14 [some (jO 2 p0)] [] m Q
def aX2_init_19 (d : Nat) (p0 : Int) (m : jM) (Q : Int → jM → Prop) : Prop := jA (d + 1) zX2_init 19 [some (jO 2 p0)] [] m Q
def aX2_init_27 (d : Nat) (p0 : Int) (m : jM) (Q : Int → jM → Prop) : Prop := jA (d + 1) zX2_init 27 [some (jO 2 p0)] [] m Q
def aX2_init_35 (d : Nat) (p0 : Int) (m : jM) (Q : Int → jM → Prop) : Prop := jA (d + 1) zX2_init 35 [some (jO 2 p0)] [] m Q
def aX2_init_43 (d : Nat) (p0 : Int) (m : jM) (Q : Int → jM → Prop) : Prop := jA (d + 1) zX2_init 43 [some (jO 2 p0)] [] m Q
def aX2_init_51 (d : Nat) (m : jM) (Q : Int → jM → Prop) : Prop := jA (d + 1) zX2_init 51 [none] [] m Q
set_option maxRecDepth 100000 in
theorem gX2_init (d : Nat) (p0 : Int) (m : jM) (Q : Int → jM → Prop)
    (h : aX2_init_4 d p0 m Q) :
    jK (d + 1) zX2_init [jO 2 p0] m Q := jWp_sn0 [(4, [true]), (9, [true]), (14, [true]), (19, [true]), (27, [true]), (35, [true]), (43, [true]), (51, [false])] jcX2_init 3 rfl h
set_option maxRecDepth 100000 in
theorem gX2_init_4 (d : Nat) (p0 : Int) (m : jM) (Q : Int → jM → Prop)
    (h : aX2_init_9 d p0 (jUp m p0 0 0) Q) :
    aX2_init_4 d p0 m Q := jWp_snd [(4, [true]), (9, [true]), (14, [true]), (19, [true]), (27, [true]), (35, [true]), (43, [true]), (51, [false])] jcX2_init 4 rfl h
set_option maxRecDepth 100000 in
theorem gX2_init_9 (d : Nat) (p0 : Int) (m : jM) (Q : Int → jM → Prop)
    (h : aX2_init_14 d p0 (jUp m p0 1 0) Q) :
    aX2_init_9 d p0 m Q := jWp_snd [(4, [true]), (9, [true]), (14, [true]), (19, [true]), (27, [true]), (35, [true]), (43, [true]), (51, [false])] jcX2_init 4 rfl h
set_option maxRecDepth 100000 in
theorem gX2_init_14 (d : Nat) (p0 : Int) (m : jM) (Q : Int → jM → Prop)
    (h : aX2_init_19 d p0 (jUp m p0 2 0) Q) :
    aX2_init_14 d p0 m Q := jWp_snd [(4, [true]), (9, [true]), (14, [true]), (19, [true]), (27, [true]), (35, [true]), (43, [true]), (51, [false])] jcX2_init 4 rfl h
set_option maxRecDepth 100000 in
theorem gX2_init_19 (d : Nat) (p0 : Int) (m : jM) (Q : Int → jM → Prop)
    (h : (m (-3) 0 < m (-2) (-7) ∧ jKd (m (-3) 0) = 20 ∧ jLn (m (-3) 0) = 8) ∧ (m (-3) 0) = (p0 + 1) ∧ aX2_init_27 d p0 (jUp (jNw m) p0 3 (m (-3) 0)) Q) :
    aX2_init_19 d p0 m Q := jWp_snd [(4, [true]), (9, [true]), (14, [true]), (19, [true]), (27, [true]), (35, [true]), (43, [true]), (51, [false])] jcX2_init 5 rfl h
set_option maxRecDepth 100000 in
theorem gX2_init_27 (d : Nat) (p0 : Int) (m : jM) (Q : Int → jM → Prop)
    (h : (m (-3) 0 < m (-2) (-7) ∧ jKd (m (-3) 0) = 20 ∧ jLn (m (-3) 0) = 8) ∧ (m (-3) 0) = (p0 + 2) ∧ aX2_init_35 d p0 (jUp (jNw m) p0 4 (m (-3) 0)) Q) :
    aX2_init_27 d p0 m Q := jWp_snd [(4, [true]), (9, [true]), (14, [true]), (19, [true]), (27, [true]), (35, [true]), (43, [true]), (51, [false])] jcX2_init 5 rfl h
set_option maxRecDepth 100000 in
theorem gX2_init_35 (d : Nat) (p0 : Int) (m : jM) (Q : Int → jM → Prop)
    (h : (m (-3) 0 < m (-2) (-7) ∧ jKd (m (-3) 0) = 20 ∧ jLn (m (-3) 0) = 8) ∧ (m (-3) 0) = (p0 + 3) ∧ aX2_init_43 d p0 (jUp (jNw m) p0 5 (m (-3) 0)) Q) :
    aX2_init_35 d p0 m Q := jWp_snd [(4, [true]), (9, [true]), (14, [true]), (19, [true]), (27, [true]), (35, [true]), (43, [true]), (51, [false])] jcX2_init 5 rfl h
set_option maxRecDepth 100000 in
theorem gX2_init_43 (d : Nat) (p0 : Int) (m : jM) (Q : Int → jM → Prop)
    (h : (m (-3) 0 < m (-2) (-7) ∧ jKd (m (-3) 0) = 20 ∧ jLn (m (-3) 0) = 8) ∧ (m (-3) 0) = (p0 + 4) ∧ aX2_init_51 d  (jUp (jNw m) p0 6 (m (-3) 0)) Q) :
    aX2_init_43 d p0 m Q := jWp_snd [(4, [true]), (9, [true]), (14, [true]), (19, [true]), (27, [true]), (35, [true]), (43, [true]), (51, [false])] jcX2_init 5 rfl h
set_option maxRecDepth 100000 in
theorem gX2_init_51 (d : Nat) (m : jM) (Q : Int → jM → Prop)
    (h : m (-3) 0 = m (-2) (-7) ∧ Q 0 m) :
    aX2_init_51 d  m Q := jWp_snd [(4, [true]), (9, [true]), (14, [true]), (19, [true]), (27, [true]), (35, [true]), (43, [true]), (51, [false])] jcX2_init 2 rfl h
def aX2_find_23 (d : Nat) (n1 y1 x2 x3 : Int) (m : jM) (Q : Int → jM → Prop) : Prop := jA (d + 1) zX2_find 23 [some (jO 2 70), some (jY 0 n1 y1), some (jI x2), some (jI x3)] [] m Q
set_option maxRecDepth 100000 in
theorem gX2_find (d : Nat) (n1 y1 x2 : Int) (m : jM) (Q : Int → jM → Prop)
    (h : jK d zJ7_fill_53178 [jY 0 8 71, jI (-1)] m (fun v1 m1 => jK d zJ7_fill_53178 [jY 0 8 72, jI (-1)] m1 (fun v2 m2 => aX2_find_23 d n1 y1 x2 0 (jUp m2 70 0 0) Q))) :
    jK (d + 1) zX2_find [jO 2 70, jY 0 n1 y1, jI x2] m Q := jWp_sn0 [(23, [true, true, true, true])] jcX2_find 14 rfl h
set_option maxRecDepth 100000 in
theorem gX2_find_23 (d : Nat) (n1 y1 x2 x3 : Int) (m : jM) (Q : Int → jM → Prop)
    (h : (x3 < 8 → ((iAnd (iShr x2 x3) 1) = 1 → jK d zX2_grow [jO 2 70, jY 0 n1 y1, jI x3] m (fun v1 m1 => (v1 = 0 → aX2_find_23 d n1 y1 x2 (w32 (x3 + 1)) m1 Q) ∧ (¬ v1 = 0 → aX2_find_23 d n1 y1 x2 (w32 (x3 + 1)) (jUp m1 70 0 (w32 ((m1 70 0) + 1))) Q))) ∧ (¬ (iAnd (iShr x2 x3) 1) = 1 → aX2_find_23 d n1 y1 x2 (w32 (x3 + 1)) m Q)) ∧ (¬ x3 < 8 → jK d zX2_spread [jO 2 70, jY 0 n1 y1, jI x2] m (fun v2 m2 => Q 0 m2))) :
    aX2_find_23 d n1 y1 x2 x3 m Q := jWp_snd [(23, [true, true, true, true])] jcX2_find 24 rfl h
def aX2_grow_15 (d : Nat) (n1 y1 x3 x4 x5 : Int) (m : jM) (Q : Int → jM → Prop) : Prop := jA (d + 1) zX2_grow 15 [some (jO 2 70), some (jY 0 n1 y1), none, some (jI x3), some (jI x4), some (jI x5), none, none, none] [] m Q
def aX2_grow_51 (d : Nat) (n1 y1 x3 x4 x5 x6 x7 x8 : Int) (m : jM) (Q : Int → jM → Prop) : Prop := jA (d + 1) zX2_grow 51 [some (jO 2 70), some (jY 0 n1 y1), none, some (jI x3), some (jI x4), some (jI x5), some (jI x6), some (jI x7), some (jI x8)] [] m Q
set_option maxRecDepth 100000 in
theorem gX2_grow (d : Nat) (n1 y1 x2 : Int) (m : jM) (Q : Int → jM → Prop)
    (h : ((0 : Int) ≤ 0 ∧ (0 : Int) < 8) ∧ aX2_grow_15 d n1 y1 0 1 0 (jUp m 74 0 x2) Q) :
    jK (d + 1) zX2_grow [jO 2 70, jY 0 n1 y1, jI x2] m Q := jWp_sn0 [(15, [true, true, false, true, true, true, false, false, false]), (51, [true, true, false, true, true, true, true, true, true])] jcX2_grow 12 rfl h
set_option maxRecDepth 100000 in
theorem gX2_grow_15 (d : Nat) (n1 y1 x3 x4 x5 : Int) (m : jM) (Q : Int → jM → Prop)
    (h : (x5 < x4 → (x5 < 8 → ((0 : Int) ≤ x5 ∧ (x5 : Int) < 8) ∧ ((0 : Int) ≤ (m 74 x5) ∧ ((m 74 x5) : Int) < n1) ∧ aX2_grow_51 d n1 y1 x3 x4 x5 (m 74 x5) (iAnd (m y1 (m 74 x5)) (iXor x3 (-1))) 0 m Q) ∧ (¬ x5 < 8 → Q 0 m)) ∧ (¬ x5 < x4 → Q 0 m)) :
    aX2_grow_15 d n1 y1 x3 x4 x5 m Q := jWp_snd [(15, [true, true, false, true, true, true, false, false, false]), (51, [true, true, false, true, true, true, true, true, true])] jcX2_grow 22 rfl h
set_option maxRecDepth 100000 in
theorem gX2_grow_51 (d : Nat) (n1 y1 x3 x4 x5 x6 x7 x8 : Int) (m : jM) (Q : Int → jM → Prop)
    (h : (x8 < 8 → ((iAnd (iShr x7 x8) 1) = 0 → aX2_grow_51 d n1 y1 x3 x4 x5 x6 x7 (w32 (x8 + 1)) m Q) ∧ (¬ (iAnd (iShr x7 x8) 1) = 0 → ((0 : Int) ≤ x8 ∧ (x8 : Int) < 8) ∧ ((0 : Int) ≤ x8 ∧ (x8 : Int) < 8) ∧ (((jUp m 73 x8 x6) 72 x8) = (-1) → jK d zX2_turn [jO 2 70, jI x8] (jUp m 73 x8 x6) (fun v1 m1 => Q 1 m1)) ∧ (¬ ((jUp m 73 x8 x6) 72 x8) = (-1) → (x4 < 8 → ((0 : Int) ≤ x8 ∧ (x8 : Int) < 8) ∧ ((0 : Int) ≤ x4 ∧ (x4 : Int) < 8) ∧ aX2_grow_51 d n1 y1 (iOr x3 (iShl 1 x8)) (w32 (x4 + 1)) x5 x6 x7 (w32 (x8 + 1)) (jUp (jUp m 73 x8 x6) 74 x4 ((jUp m 73 x8 x6) 72 x8)) Q) ∧ (¬ x4 < 8 → aX2_grow_51 d n1 y1 (iOr x3 (iShl 1 x8)) x4 x5 x6 x7 (w32 (x8 + 1)) (jUp m 73 x8 x6) Q)))) ∧ (¬ x8 < 8 → aX2_grow_15 d n1 y1 x3 x4 (w32 (x5 + 1)) m Q)) :
    aX2_grow_51 d n1 y1 x3 x4 x5 x6 x7 x8 m Q := jWp_snd [(15, [true, true, false, true, true, true, false, false, false]), (51, [true, true, false, true, true, true, true, true, true])] jcX2_grow 41 rfl h
def aX2_turn_4 (d : Nat) (x2 x3 : Int) (m : jM) (Q : Int → jM → Prop) : Prop := jA (d + 1) zX2_turn 4 [some (jO 2 70), none, some (jI x2), some (jI x3), none, none] [] m Q
set_option maxRecDepth 100000 in
theorem gX2_turn (d : Nat) (x1 : Int) (m : jM) (Q : Int → jM → Prop)
    (h : aX2_turn_4 d x1 0 m Q) :
    jK (d + 1) zX2_turn [jO 2 70, jI x1] m Q := jWp_sn0 [(4, [true, false, true, true, false, false])] jcX2_turn 5 rfl h
set_option maxRecDepth 100000 in
theorem gX2_turn_4 (d : Nat) (x2 x3 : Int) (m : jM) (Q : Int → jM → Prop)
    (h : (x3 < 8 → (x2 = (-1) → Q 0 m) ∧ (¬ x2 = (-1) → ((0 : Int) ≤ x2 ∧ (x2 : Int) < 8) ∧ ((0 : Int) ≤ (m 73 x2) ∧ ((m 73 x2) : Int) < 8) ∧ ((0 : Int) ≤ (m 73 x2) ∧ ((m 73 x2) : Int) < 8) ∧ ((0 : Int) ≤ x2 ∧ (x2 : Int) < 8) ∧ aX2_turn_4 d (m 71 (m 73 x2)) (w32 (x3 + 1)) (jUp (jUp m 71 (m 73 x2) x2) 72 x2 (m 73 x2)) Q)) ∧ (¬ x3 < 8 → Q 0 m)) :
    aX2_turn_4 d x2 x3 m Q := jWp_snd [(4, [true, false, true, true, false, false])] jcX2_turn 31 rfl h
def aX2_spread_12 (d : Nat) (n1 y1 x2 x3 : Int) (m : jM) (Q : Int → jM → Prop) : Prop := jA (d + 1) zX2_spread 12 [some (jO 2 70), some (jY 0 n1 y1), some (jI x2), some (jI x3), none] [] m Q
def aX2_spread_57 (d : Nat) (n1 y1 x3 : Int) (m : jM) (Q : Int → jM → Prop) : Prop := jA (d + 1) zX2_spread 57 [some (jO 2 70), some (jY 0 n1 y1), none, some (jI x3), none] [] m Q
def aX2_spread_66 (d : Nat) (n1 y1 x3 x4 : Int) (m : jM) (Q : Int → jM → Prop) : Prop := jA (d + 1) zX2_spread 66 [some (jO 2 70), some (jY 0 n1 y1), none, some (jI x3), some (jI x4)] [] m Q
def aX2_spread_108 (d : Nat) (n1 y1 x3 x4 : Int) (m : jM) (Q : Int → jM → Prop) : Prop := jA (d + 1) zX2_spread 108 [some (jO 2 70), some (jY 0 n1 y1), none, some (jI x3), some (jI x4)] [] m Q
set_option maxRecDepth 100000 in
theorem gX2_spread (d : Nat) (n1 y1 x2 : Int) (m : jM) (Q : Int → jM → Prop)
    (h : aX2_spread_12 d n1 y1 x2 0 (jUp (jUp m 70 1 0) 70 2 0) Q) :
    jK (d + 1) zX2_spread [jO 2 70, jY 0 n1 y1, jI x2] m Q := jWp_sn0 [(12, [true, true, true, true, false]), (57, [true, true, false, true, false]), (66, [true, true, false, true, true]), (108, [true, true, false, true, true])] jcX2_spread 9 rfl h
set_option maxRecDepth 100000 in
theorem gX2_spread_12 (d : Nat) (n1 y1 x2 x3 : Int) (m : jM) (Q : Int → jM → Prop)
    (h : (x3 < 8 → ((iAnd (iShr x2 x3) 1) = 1 → ((0 : Int) ≤ x3 ∧ (x3 : Int) < 8) ∧ ((m 71 x3) = (-1) → aX2_spread_12 d n1 y1 x2 (w32 (x3 + 1)) (jUp m 70 1 (iOr (m 70 1) (iShl 1 x3))) Q) ∧ (¬ (m 71 x3) = (-1) → aX2_spread_12 d n1 y1 x2 (w32 (x3 + 1)) m Q)) ∧ (¬ (iAnd (iShr x2 x3) 1) = 1 → aX2_spread_12 d n1 y1 x2 (w32 (x3 + 1)) m Q)) ∧ (¬ x3 < 8 → aX2_spread_57 d n1 y1 0 m Q)) :
    aX2_spread_12 d n1 y1 x2 x3 m Q := jWp_snd [(12, [true, true, true, true, false]), (57, [true, true, false, true, false]), (66, [true, true, false, true, true]), (108, [true, true, false, true, true])] jcX2_spread 27 rfl h
set_option maxRecDepth 100000 in
theorem gX2_spread_57 (d : Nat) (n1 y1 x3 : Int) (m : jM) (Q : Int → jM → Prop)
    (h : (8 < x3 → Q 0 m) ∧ (¬ 8 < x3 → aX2_spread_66 d n1 y1 x3 0 m Q)) :
    aX2_spread_57 d n1 y1 x3 m Q := jWp_snd [(12, [true, true, true, true, false]), (57, [true, true, false, true, false]), (66, [true, true, false, true, true]), (108, [true, true, false, true, true])] jcX2_spread 6 rfl h
set_option maxRecDepth 100000 in
theorem gX2_spread_66 (d : Nat) (n1 y1 x3 x4 : Int) (m : jM) (Q : Int → jM → Prop)
    (h : (x4 < 8 → ((iAnd (iShr (m 70 1) x4) 1) = 1 → ((0 : Int) ≤ x4 ∧ (x4 : Int) < n1) ∧ aX2_spread_66 d n1 y1 x3 (w32 (x4 + 1)) (jUp m 70 2 (iOr (m 70 2) (m y1 x4))) Q) ∧ (¬ (iAnd (iShr (m 70 1) x4) 1) = 1 → aX2_spread_66 d n1 y1 x3 (w32 (x4 + 1)) m Q)) ∧ (¬ x4 < 8 → aX2_spread_108 d n1 y1 x3 0 m Q)) :
    aX2_spread_66 d n1 y1 x3 x4 m Q := jWp_snd [(12, [true, true, true, true, false]), (57, [true, true, false, true, false]), (66, [true, true, false, true, true]), (108, [true, true, false, true, true])] jcX2_spread 22 rfl h
set_option maxRecDepth 100000 in
theorem gX2_spread_108 (d : Nat) (n1 y1 x3 x4 : Int) (m : jM) (Q : Int → jM → Prop)
    (h : (x4 < 8 → ((iAnd (iShr (m 70 2) x4) 1) = 1 → ((0 : Int) ≤ x4 ∧ (x4 : Int) < 8) ∧ ((m 72 x4) = (-1) → aX2_spread_108 d n1 y1 x3 (w32 (x4 + 1)) m Q) ∧ (¬ (m 72 x4) = (-1) → ((0 : Int) ≤ x4 ∧ (x4 : Int) < 8) ∧ aX2_spread_108 d n1 y1 x3 (w32 (x4 + 1)) (jUp m 70 1 (iOr (m 70 1) (iShl 1 (m 72 x4)))) Q)) ∧ (¬ (iAnd (iShr (m 70 2) x4) 1) = 1 → aX2_spread_108 d n1 y1 x3 (w32 (x4 + 1)) m Q)) ∧ (¬ x4 < 8 → aX2_spread_57 d n1 y1 (w32 (x3 + 1)) m Q)) :
    aX2_spread_108 d n1 y1 x3 x4 m Q := jWp_snd [(12, [true, true, true, true, false]), (57, [true, true, false, true, false]), (66, [true, true, false, true, true]), (108, [true, true, false, true, true])] jcX2_spread 31 rfl h
def aX3_init_4 (d : Nat) (p0 : Int) (m : jM) (Q : Int → jM → Prop) : Prop := jA (d + 1) zX3_init 4 [some (jO 3 p0)] [] m Q
def aX3_init_9 (d : Nat) (p0 : Int) (m : jM) (Q : Int → jM → Prop) : Prop := jA (d + 1) zX3_init 9 [some (jO 3 p0)] [] m Q
def aX3_init_17 (d : Nat) (p0 : Int) (m : jM) (Q : Int → jM → Prop) : Prop := jA (d + 1) zX3_init 17 [some (jO 3 p0)] [] m Q
def aX3_init_25 (d : Nat) (p0 : Int) (m : jM) (Q : Int → jM → Prop) : Prop := jA (d + 1) zX3_init 25 [some (jO 3 p0)] [] m Q
def aX3_init_30 (d : Nat) (p0 : Int) (m : jM) (Q : Int → jM → Prop) : Prop := jA (d + 1) zX3_init 30 [some (jO 3 p0)] [] m Q
def aX3_init_38 (d : Nat) (p0 : Int) (m : jM) (Q : Int → jM → Prop) : Prop := jA (d + 1) zX3_init 38 [some (jO 3 p0)] [] m Q
def aX3_init_47 (d : Nat) (p0 : Int) (m : jM) (Q : Int → jM → Prop) : Prop := jA (d + 1) zX3_init 47 [some (jO 3 p0)] [] m Q
def aX3_init_55 (d : Nat) (p0 : Int) (m : jM) (Q : Int → jM → Prop) : Prop := jA (d + 1) zX3_init 55 [some (jO 3 p0)] [] m Q
def aX3_init_63 (d : Nat) (m : jM) (Q : Int → jM → Prop) : Prop := jA (d + 1) zX3_init 63 [none] [] m Q
set_option maxRecDepth 100000 in
theorem gX3_init (d : Nat) (p0 : Int) (m : jM) (Q : Int → jM → Prop)
    (h : aX3_init_4 d p0 m Q) :
    jK (d + 1) zX3_init [jO 3 p0] m Q := jWp_sn0 [(4, [true]), (9, [true]), (17, [true]), (25, [true]), (30, [true]), (38, [true]), (47, [true]), (55, [true]), (63, [false])] jcX3_init 3 rfl h
set_option maxRecDepth 100000 in
theorem gX3_init_4 (d : Nat) (p0 : Int) (m : jM) (Q : Int → jM → Prop)
    (h : aX3_init_9 d p0 (jUp m p0 0 0) Q) :
    aX3_init_4 d p0 m Q := jWp_snd [(4, [true]), (9, [true]), (17, [true]), (25, [true]), (30, [true]), (38, [true]), (47, [true]), (55, [true]), (63, [false])] jcX3_init 4 rfl h
set_option maxRecDepth 100000 in
theorem gX3_init_9 (d : Nat) (p0 : Int) (m : jM) (Q : Int → jM → Prop)
    (h : (m (-3) 0 < m (-2) (-7) ∧ jKd (m (-3) 0) = 21 ∧ jLn (m (-3) 0) = 12) ∧ (m (-3) 0) = (p0 + 1) ∧ aX3_init_17 d p0 (jUp (jNw m) p0 1 (m (-3) 0)) Q) :
    aX3_init_9 d p0 m Q := jWp_snd [(4, [true]), (9, [true]), (17, [true]), (25, [true]), (30, [true]), (38, [true]), (47, [true]), (55, [true]), (63, [false])] jcX3_init 5 rfl h
set_option maxRecDepth 100000 in
theorem gX3_init_17 (d : Nat) (p0 : Int) (m : jM) (Q : Int → jM → Prop)
    (h : (m (-3) 0 < m (-2) (-7) ∧ jKd (m (-3) 0) = 20 ∧ jLn (m (-3) 0) = 96) ∧ (m (-3) 0) = (p0 + 2) ∧ aX3_init_25 d p0 (jUp (jNw m) p0 2 (m (-3) 0)) Q) :
    aX3_init_17 d p0 m Q := jWp_snd [(4, [true]), (9, [true]), (17, [true]), (25, [true]), (30, [true]), (38, [true]), (47, [true]), (55, [true]), (63, [false])] jcX3_init 5 rfl h
set_option maxRecDepth 100000 in
theorem gX3_init_25 (d : Nat) (p0 : Int) (m : jM) (Q : Int → jM → Prop)
    (h : aX3_init_30 d p0 (jUp m p0 3 0) Q) :
    aX3_init_25 d p0 m Q := jWp_snd [(4, [true]), (9, [true]), (17, [true]), (25, [true]), (30, [true]), (38, [true]), (47, [true]), (55, [true]), (63, [false])] jcX3_init 4 rfl h
set_option maxRecDepth 100000 in
theorem gX3_init_30 (d : Nat) (p0 : Int) (m : jM) (Q : Int → jM → Prop)
    (h : (m (-3) 0 < m (-2) (-7) ∧ jKd (m (-3) 0) = 21 ∧ jLn (m (-3) 0) = 97) ∧ (m (-3) 0) = (p0 + 3) ∧ aX3_init_38 d p0 (jUp (jNw m) p0 4 (m (-3) 0)) Q) :
    aX3_init_30 d p0 m Q := jWp_snd [(4, [true]), (9, [true]), (17, [true]), (25, [true]), (30, [true]), (38, [true]), (47, [true]), (55, [true]), (63, [false])] jcX3_init 5 rfl h
set_option maxRecDepth 100000 in
theorem gX3_init_38 (d : Nat) (p0 : Int) (m : jM) (Q : Int → jM → Prop)
    (h : (m (-3) 0 < m (-2) (-7) ∧ jKd (m (-3) 0) = 20 ∧ jLn (m (-3) 0) = 776) ∧ (m (-3) 0) = (p0 + 4) ∧ aX3_init_47 d p0 (jUp (jNw m) p0 5 (m (-3) 0)) Q) :
    aX3_init_38 d p0 m Q := jWp_snd [(4, [true]), (9, [true]), (17, [true]), (25, [true]), (30, [true]), (38, [true]), (47, [true]), (55, [true]), (63, [false])] jcX3_init 5 rfl h
set_option maxRecDepth 100000 in
theorem gX3_init_47 (d : Nat) (p0 : Int) (m : jM) (Q : Int → jM → Prop)
    (h : (m (-3) 0 < m (-2) (-7) ∧ jKd (m (-3) 0) = 20 ∧ jLn (m (-3) 0) = 97) ∧ (m (-3) 0) = (p0 + 5) ∧ aX3_init_55 d p0 (jUp (jNw m) p0 6 (m (-3) 0)) Q) :
    aX3_init_47 d p0 m Q := jWp_snd [(4, [true]), (9, [true]), (17, [true]), (25, [true]), (30, [true]), (38, [true]), (47, [true]), (55, [true]), (63, [false])] jcX3_init 5 rfl h
set_option maxRecDepth 100000 in
theorem gX3_init_55 (d : Nat) (p0 : Int) (m : jM) (Q : Int → jM → Prop)
    (h : (m (-3) 0 < m (-2) (-7) ∧ jKd (m (-3) 0) = 20 ∧ jLn (m (-3) 0) = 97) ∧ (m (-3) 0) = (p0 + 6) ∧ aX3_init_63 d  (jUp (jNw m) p0 7 (m (-3) 0)) Q) :
    aX3_init_55 d p0 m Q := jWp_snd [(4, [true]), (9, [true]), (17, [true]), (25, [true]), (30, [true]), (38, [true]), (47, [true]), (55, [true]), (63, [false])] jcX3_init 5 rfl h
set_option maxRecDepth 100000 in
theorem gX3_init_63 (d : Nat) (m : jM) (Q : Int → jM → Prop)
    (h : m (-3) 0 = m (-2) (-7) ∧ Q 0 m) :
    aX3_init_63 d  m Q := jWp_snd [(4, [true]), (9, [true]), (17, [true]), (25, [true]), (30, [true]), (38, [true]), (47, [true]), (55, [true]), (63, [false])] jcX3_init 2 rfl h
def aX3_find_20 (d : Nat) (x2 : Int) (m : jM) (Q : Int → jM → Prop) : Prop := jA (d + 1) zX3_find 20 [some (jO 3 81), some (jO 4 54), some (jI x2), none, none, none] [] m Q
set_option maxRecDepth 100000 in
theorem gX3_find (d : Nat) (m : jM) (Q : Int → jM → Prop)
    (h : jK d zX3_propose [jO 3 81, jO 4 54, jI 0, jI 0, jI 0] (jUp (jUp m 81 0 0) 81 3 0) (fun v1 m1 => aX3_find_20 d 0 m1 Q)) :
    jK (d + 1) zX3_find [jO 3 81, jO 4 54] m Q := jWp_sn0 [(20, [true, true, true, false, false, false])] jcX3_find 15 rfl h
set_option maxRecDepth 100000 in
theorem gX3_find_20 (d : Nat) (x2 : Int) (m : jM) (Q : Int → jM → Prop)
    (h : (x2 < 12 → (0 < (m 81 3) → jK d zX3_firstPart [jO 3 81] m (fun v1 m1 => ((0 : Int) ≤ v1 ∧ (v1 : Int) < 97) ∧ ((0 : Int) ≤ v1 ∧ (v1 : Int) < 97) ∧ jK d zX3_keep [jO 3 81, jI v1] m1 (fun v2 m2 => jK d zX3_drop [jO 3 81, jI v1] m2 (fun v3 m3 => jK d zX3_split [jO 3 81, jO 4 54, jI (m1 86 v1), jI (m1 87 v1)] m3 (fun v4 m4 => aX3_find_20 d (w32 (x2 + 1)) m4 Q))))) ∧ (¬ 0 < (m 81 3) → Q 0 m)) ∧ (¬ x2 < 12 → Q 0 m)) :
    aX3_find_20 d x2 m Q := jWp_snd [(20, [true, true, true, false, false, false])] jcX3_find 33 rfl h
def aX3_firstPart_4 (d : Nat) (x1 x2 : Int) (m : jM) (Q : Int → jM → Prop) : Prop := jA (d + 1) zX3_firstPart 4 [some (jO 3 81), some (jI x1), some (jI x2)] [] m Q
set_option maxRecDepth 100000 in
theorem gX3_firstPart (d : Nat) (m : jM) (Q : Int → jM → Prop)
    (h : aX3_firstPart_4 d 0 1 m Q) :
    jK (d + 1) zX3_firstPart [jO 3 81] m Q := jWp_sn0 [(4, [true, true, true])] jcX3_firstPart 5 rfl h
set_option maxRecDepth 100000 in
theorem gX3_firstPart_4 (d : Nat) (x1 x2 : Int) (m : jM) (Q : Int → jM → Prop)
    (h : (x2 < (m 81 3) → ((0 : Int) ≤ x2 ∧ (x2 : Int) < 97) ∧ ((0 : Int) ≤ x1 ∧ (x1 : Int) < 97) ∧ ((m 84 x2) < (m 84 x1) → aX3_firstPart_4 d x2 (w32 (x2 + 1)) m Q) ∧ (¬ (m 84 x2) < (m 84 x1) → ((0 : Int) ≤ x2 ∧ (x2 : Int) < 97) ∧ ((0 : Int) ≤ x1 ∧ (x1 : Int) < 97) ∧ ((m 84 x2) = (m 84 x1) → jK d zX3_isAhead [jO 3 81, jI x2, jI x1] m (fun v1 m1 => (v1 = 0 → aX3_firstPart_4 d x1 (w32 (x2 + 1)) m1 Q) ∧ (¬ v1 = 0 → aX3_firstPart_4 d x2 (w32 (x2 + 1)) m1 Q))) ∧ (¬ (m 84 x2) = (m 84 x1) → aX3_firstPart_4 d x1 (w32 (x2 + 1)) m Q))) ∧ (¬ x2 < (m 81 3) → Q x1 m)) :
    aX3_firstPart_4 d x1 x2 m Q := jWp_snd [(4, [true, true, true])] jcX3_firstPart 32 rfl h
def aX3_isAhead_2 (d : Nat) (x1 x2 x3 : Int) (m : jM) (Q : Int → jM → Prop) : Prop := jA (d + 1) zX3_isAhead 2 [some (jO 3 81), some (jI x1), some (jI x2), some (jI x3), none, none] [] m Q
set_option maxRecDepth 100000 in
theorem gX3_isAhead (d : Nat) (x1 x2 : Int) (m : jM) (Q : Int → jM → Prop)
    (h : aX3_isAhead_2 d x1 x2 0 m Q) :
    jK (d + 1) zX3_isAhead [jO 3 81, jI x1, jI x2] m Q := jWp_sn0 [(2, [true, true, true, true, false, false])] jcX3_isAhead 3 rfl h
set_option maxRecDepth 100000 in
theorem gX3_isAhead_2 (d : Nat) (x1 x2 x3 : Int) (m : jM) (Q : Int → jM → Prop)
    (h : (x3 < 8 → ((0 : Int) ≤ (w32 ((w32 (x1 * 8)) + x3)) ∧ ((w32 ((w32 (x1 * 8)) + x3)) : Int) < 776) ∧ ((0 : Int) ≤ (w32 ((w32 (x2 * 8)) + x3)) ∧ ((w32 ((w32 (x2 * 8)) + x3)) : Int) < 776) ∧ ((m 85 (w32 ((w32 (x1 * 8)) + x3))) = (m 85 (w32 ((w32 (x2 * 8)) + x3))) → aX3_isAhead_2 d x1 x2 (w32 (x3 + 1)) m Q) ∧ (¬ (m 85 (w32 ((w32 (x1 * 8)) + x3))) = (m 85 (w32 ((w32 (x2 * 8)) + x3))) → ((m 85 (w32 ((w32 (x1 * 8)) + x3))) < (m 85 (w32 ((w32 (x2 * 8)) + x3))) → Q 1 m) ∧ (¬ (m 85 (w32 ((w32 (x1 * 8)) + x3))) < (m 85 (w32 ((w32 (x2 * 8)) + x3))) → Q 0 m))) ∧ (¬ x3 < 8 → Q 0 m)) :
    aX3_isAhead_2 d x1 x2 x3 m Q := jWp_snd [(2, [true, true, true, true, false, false])] jcX3_isAhead 31 rfl h
set_option maxRecDepth 100000 in
theorem gX3_keep (d : Nat) (x1 : Int) (m : jM) (Q : Int → jM → Prop)
    (h : ((0 : Int) ≤ x1 ∧ (x1 : Int) < 97) ∧ ((0 : Int) ≤ (m 81 0) ∧ ((m 81 0) : Int) < 12) ∧ ((0 : Int) ≤ (w32 (x1 * 8)) ∧ (0 : Int) ≤ (w32 (((jUp m 82 (m 81 0) (m 84 x1)) 81 0) * 8)) ∧ (0 : Int) ≤ 8 ∧ ((w32 (x1 * 8)) : Int) + 8 ≤ 776 ∧ ((w32 (((jUp m 82 (m 81 0) (m 84 x1)) 81 0) * 8)) : Int) + 8 ≤ 96) ∧ Q 0 (jUp (jCp (jUp m 82 (m 81 0) (m 84 x1)) 85 (w32 (x1 * 8)) 83 (w32 (((jUp m 82 (m 81 0) (m 84 x1)) 81 0) * 8)) 8) 81 0 (w32 (((jCp (jUp m 82 (m 81 0) (m 84 x1)) 85 (w32 (x1 * 8)) 83 (w32 (((jUp m 82 (m 81 0) (m 84 x1)) 81 0) * 8)) 8) 81 0) + 1)))) :
    jK (d + 1) zX3_keep [jO 3 81, jI x1] m Q := jWp_sn0 [] jcX3_keep 30 rfl h
set_option maxRecDepth 100000 in
theorem gX3_drop (d : Nat) (x1 : Int) (m : jM) (Q : Int → jM → Prop)
    (h : ((0 : Int) ≤ ((jUp m 81 3 (w32 ((m 81 3) - 1))) 81 3) ∧ (((jUp m 81 3 (w32 ((m 81 3) - 1))) 81 3) : Int) < 97) ∧ ((0 : Int) ≤ x1 ∧ (x1 : Int) < 97) ∧ ((0 : Int) ≤ ((jUp (jUp m 81 3 (w32 ((m 81 3) - 1))) 84 x1 ((jUp m 81 3 (w32 ((m 81 3) - 1))) 84 ((jUp m 81 3 (w32 ((m 81 3) - 1))) 81 3))) 81 3) ∧ (((jUp (jUp m 81 3 (w32 ((m 81 3) - 1))) 84 x1 ((jUp m 81 3 (w32 ((m 81 3) - 1))) 84 ((jUp m 81 3 (w32 ((m 81 3) - 1))) 81 3))) 81 3) : Int) < 97) ∧ ((0 : Int) ≤ x1 ∧ (x1 : Int) < 97) ∧ ((0 : Int) ≤ ((jUp (jUp (jUp m 81 3 (w32 ((m 81 3) - 1))) 84 x1 ((jUp m 81 3 (w32 ((m 81 3) - 1))) 84 ((jUp m 81 3 (w32 ((m 81 3) - 1))) 81 3))) 86 x1 ((jUp (jUp m 81 3 (w32 ((m 81 3) - 1))) 84 x1 ((jUp m 81 3 (w32 ((m 81 3) - 1))) 84 ((jUp m 81 3 (w32 ((m 81 3) - 1))) 81 3))) 86 ((jUp (jUp m 81 3 (w32 ((m 81 3) - 1))) 84 x1 ((jUp m 81 3 (w32 ((m 81 3) - 1))) 84 ((jUp m 81 3 (w32 ((m 81 3) - 1))) 81 3))) 81 3))) 81 3) ∧ (((jUp (jUp (jUp m 81 3 (w32 ((m 81 3) - 1))) 84 x1 ((jUp m 81 3 (w32 ((m 81 3) - 1))) 84 ((jUp m 81 3 (w32 ((m 81 3) - 1))) 81 3))) 86 x1 ((jUp (jUp m 81 3 (w32 ((m 81 3) - 1))) 84 x1 ((jUp m 81 3 (w32 ((m 81 3) - 1))) 84 ((jUp m 81 3 (w32 ((m 81 3) - 1))) 81 3))) 86 ((jUp (jUp m 81 3 (w32 ((m 81 3) - 1))) 84 x1 ((jUp m 81 3 (w32 ((m 81 3) - 1))) 84 ((jUp m 81 3 (w32 ((m 81 3) - 1))) 81 3))) 81 3))) 81 3) : Int) < 97) ∧ ((0 : Int) ≤ x1 ∧ (x1 : Int) < 97) ∧ ((0 : Int) ≤ (w32 (((jUp (jUp (jUp (jUp m 81 3 (w32 ((m 81 3) - 1))) 84 x1 ((jUp m 81 3 (w32 ((m 81 3) - 1))) 84 ((jUp m 81 3 (w32 ((m 81 3) - 1))) 81 3))) 86 x1 ((jUp (jUp m 81 3 (w32 ((m 81 3) - 1))) 84 x1 ((jUp m 81 3 (w32 ((m 81 3) - 1))) 84 ((jUp m 81 3 (w32 ((m 81 3) - 1))) 81 3))) 86 ((jUp (jUp m 81 3 (w32 ((m 81 3) - 1))) 84 x1 ((jUp m 81 3 (w32 ((m 81 3) - 1))) 84 ((jUp m 81 3 (w32 ((m 81 3) - 1))) 81 3))) 81 3))) 87 x1 ((jUp (jUp (jUp m 81 3 (w32 ((m 81 3) - 1))) 84 x1 ((jUp m 81 3 (w32 ((m 81 3) - 1))) 84 ((jUp m 81 3 (w32 ((m 81 3) - 1))) 81 3))) 86 x1 ((jUp (jUp m 81 3 (w32 ((m 81 3) - 1))) 84 x1 ((jUp m 81 3 (w32 ((m 81 3) - 1))) 84 ((jUp m 81 3 (w32 ((m 81 3) - 1))) 81 3))) 86 ((jUp (jUp m 81 3 (w32 ((m 81 3) - 1))) 84 x1 ((jUp m 81 3 (w32 ((m 81 3) - 1))) 84 ((jUp m 81 3 (w32 ((m 81 3) - 1))) 81 3))) 81 3))) 87 ((jUp (jUp (jUp m 81 3 (w32 ((m 81 3) - 1))) 84 x1 ((jUp m 81 3 (w32 ((m 81 3) - 1))) 84 ((jUp m 81 3 (w32 ((m 81 3) - 1))) 81 3))) 86 x1 ((jUp (jUp m 81 3 (w32 ((m 81 3) - 1))) 84 x1 ((jUp m 81 3 (w32 ((m 81 3) - 1))) 84 ((jUp m 81 3 (w32 ((m 81 3) - 1))) 81 3))) 86 ((jUp (jUp m 81 3 (w32 ((m 81 3) - 1))) 84 x1 ((jUp m 81 3 (w32 ((m 81 3) - 1))) 84 ((jUp m 81 3 (w32 ((m 81 3) - 1))) 81 3))) 81 3))) 81 3))) 81 3) * 8)) ∧ (0 : Int) ≤ (w32 (x1 * 8)) ∧ (0 : Int) ≤ 8 ∧ ((w32 (((jUp (jUp (jUp (jUp m 81 3 (w32 ((m 81 3) - 1))) 84 x1 ((jUp m 81 3 (w32 ((m 81 3) - 1))) 84 ((jUp m 81 3 (w32 ((m 81 3) - 1))) 81 3))) 86 x1 ((jUp (jUp m 81 3 (w32 ((m 81 3) - 1))) 84 x1 ((jUp m 81 3 (w32 ((m 81 3) - 1))) 84 ((jUp m 81 3 (w32 ((m 81 3) - 1))) 81 3))) 86 ((jUp (jUp m 81 3 (w32 ((m 81 3) - 1))) 84 x1 ((jUp m 81 3 (w32 ((m 81 3) - 1))) 84 ((jUp m 81 3 (w32 ((m 81 3) - 1))) 81 3))) 81 3))) 87 x1 ((jUp (jUp (jUp m 81 3 (w32 ((m 81 3) - 1))) 84 x1 ((jUp m 81 3 (w32 ((m 81 3) - 1))) 84 ((jUp m 81 3 (w32 ((m 81 3) - 1))) 81 3))) 86 x1 ((jUp (jUp m 81 3 (w32 ((m 81 3) - 1))) 84 x1 ((jUp m 81 3 (w32 ((m 81 3) - 1))) 84 ((jUp m 81 3 (w32 ((m 81 3) - 1))) 81 3))) 86 ((jUp (jUp m 81 3 (w32 ((m 81 3) - 1))) 84 x1 ((jUp m 81 3 (w32 ((m 81 3) - 1))) 84 ((jUp m 81 3 (w32 ((m 81 3) - 1))) 81 3))) 81 3))) 87 ((jUp (jUp (jUp m 81 3 (w32 ((m 81 3) - 1))) 84 x1 ((jUp m 81 3 (w32 ((m 81 3) - 1))) 84 ((jUp m 81 3 (w32 ((m 81 3) - 1))) 81 3))) 86 x1 ((jUp (jUp m 81 3 (w32 ((m 81 3) - 1))) 84 x1 ((jUp m 81 3 (w32 ((m 81 3) - 1))) 84 ((jUp m 81 3 (w32 ((m 81 3) - 1))) 81 3))) 86 ((jUp (jUp m 81 3 (w32 ((m 81 3) - 1))) 84 x1 ((jUp m 81 3 (w32 ((m 81 3) - 1))) 84 ((jUp m 81 3 (w32 ((m 81 3) - 1))) 81 3))) 81 3))) 81 3))) 81 3) * 8)) : Int) + 8 ≤ 776 ∧ ((w32 (x1 * 8)) : Int) + 8 ≤ 776) ∧ Q 0 (jCp (jUp (jUp (jUp (jUp m 81 3 (w32 ((m 81 3) - 1))) 84 x1 ((jUp m 81 3 (w32 ((m 81 3) - 1))) 84 ((jUp m 81 3 (w32 ((m 81 3) - 1))) 81 3))) 86 x1 ((jUp (jUp m 81 3 (w32 ((m 81 3) - 1))) 84 x1 ((jUp m 81 3 (w32 ((m 81 3) - 1))) 84 ((jUp m 81 3 (w32 ((m 81 3) - 1))) 81 3))) 86 ((jUp (jUp m 81 3 (w32 ((m 81 3) - 1))) 84 x1 ((jUp m 81 3 (w32 ((m 81 3) - 1))) 84 ((jUp m 81 3 (w32 ((m 81 3) - 1))) 81 3))) 81 3))) 87 x1 ((jUp (jUp (jUp m 81 3 (w32 ((m 81 3) - 1))) 84 x1 ((jUp m 81 3 (w32 ((m 81 3) - 1))) 84 ((jUp m 81 3 (w32 ((m 81 3) - 1))) 81 3))) 86 x1 ((jUp (jUp m 81 3 (w32 ((m 81 3) - 1))) 84 x1 ((jUp m 81 3 (w32 ((m 81 3) - 1))) 84 ((jUp m 81 3 (w32 ((m 81 3) - 1))) 81 3))) 86 ((jUp (jUp m 81 3 (w32 ((m 81 3) - 1))) 84 x1 ((jUp m 81 3 (w32 ((m 81 3) - 1))) 84 ((jUp m 81 3 (w32 ((m 81 3) - 1))) 81 3))) 81 3))) 87 ((jUp (jUp (jUp m 81 3 (w32 ((m 81 3) - 1))) 84 x1 ((jUp m 81 3 (w32 ((m 81 3) - 1))) 84 ((jUp m 81 3 (w32 ((m 81 3) - 1))) 81 3))) 86 x1 ((jUp (jUp m 81 3 (w32 ((m 81 3) - 1))) 84 x1 ((jUp m 81 3 (w32 ((m 81 3) - 1))) 84 ((jUp m 81 3 (w32 ((m 81 3) - 1))) 81 3))) 86 ((jUp (jUp m 81 3 (w32 ((m 81 3) - 1))) 84 x1 ((jUp m 81 3 (w32 ((m 81 3) - 1))) 84 ((jUp m 81 3 (w32 ((m 81 3) - 1))) 81 3))) 81 3))) 81 3))) 85 (w32 (((jUp (jUp (jUp (jUp m 81 3 (w32 ((m 81 3) - 1))) 84 x1 ((jUp m 81 3 (w32 ((m 81 3) - 1))) 84 ((jUp m 81 3 (w32 ((m 81 3) - 1))) 81 3))) 86 x1 ((jUp (jUp m 81 3 (w32 ((m 81 3) - 1))) 84 x1 ((jUp m 81 3 (w32 ((m 81 3) - 1))) 84 ((jUp m 81 3 (w32 ((m 81 3) - 1))) 81 3))) 86 ((jUp (jUp m 81 3 (w32 ((m 81 3) - 1))) 84 x1 ((jUp m 81 3 (w32 ((m 81 3) - 1))) 84 ((jUp m 81 3 (w32 ((m 81 3) - 1))) 81 3))) 81 3))) 87 x1 ((jUp (jUp (jUp m 81 3 (w32 ((m 81 3) - 1))) 84 x1 ((jUp m 81 3 (w32 ((m 81 3) - 1))) 84 ((jUp m 81 3 (w32 ((m 81 3) - 1))) 81 3))) 86 x1 ((jUp (jUp m 81 3 (w32 ((m 81 3) - 1))) 84 x1 ((jUp m 81 3 (w32 ((m 81 3) - 1))) 84 ((jUp m 81 3 (w32 ((m 81 3) - 1))) 81 3))) 86 ((jUp (jUp m 81 3 (w32 ((m 81 3) - 1))) 84 x1 ((jUp m 81 3 (w32 ((m 81 3) - 1))) 84 ((jUp m 81 3 (w32 ((m 81 3) - 1))) 81 3))) 81 3))) 87 ((jUp (jUp (jUp m 81 3 (w32 ((m 81 3) - 1))) 84 x1 ((jUp m 81 3 (w32 ((m 81 3) - 1))) 84 ((jUp m 81 3 (w32 ((m 81 3) - 1))) 81 3))) 86 x1 ((jUp (jUp m 81 3 (w32 ((m 81 3) - 1))) 84 x1 ((jUp m 81 3 (w32 ((m 81 3) - 1))) 84 ((jUp m 81 3 (w32 ((m 81 3) - 1))) 81 3))) 86 ((jUp (jUp m 81 3 (w32 ((m 81 3) - 1))) 84 x1 ((jUp m 81 3 (w32 ((m 81 3) - 1))) 84 ((jUp m 81 3 (w32 ((m 81 3) - 1))) 81 3))) 81 3))) 81 3))) 81 3) * 8)) 85 (w32 (x1 * 8)) 8)) :
    jK (d + 1) zX3_drop [jO 3 81, jI x1] m Q := jWp_sn0 [] jcX3_drop 48 rfl h
def aX3_split_14 (d : Nat) (x4 x5 x6 : Int) (m : jM) (Q : Int → jM → Prop) : Prop := jA (d + 1) zX3_split 14 [some (jO 3 81), some (jO 4 54), none, none, some (jI x4), some (jI x5), some (jI x6)] [] m Q
set_option maxRecDepth 100000 in
theorem gX3_split (d : Nat) (x2 x3 : Int) (m : jM) (Q : Int → jM → Prop)
    (h : aX3_split_14 d (w32 ((m 81 0) - 1)) x3 x2 m Q) :
    jK (d + 1) zX3_split [jO 3 81, jO 4 54, jI x2, jI x3] m Q := jWp_sn0 [(14, [true, true, false, false, true, true, true])] jcX3_split 10 rfl h
set_option maxRecDepth 100000 in
theorem gX3_split_14 (d : Nat) (x4 x5 x6 : Int) (m : jM) (Q : Int → jM → Prop)
    (h : (x6 < (m 54 1) → ((0 : Int) ≤ x6 ∧ (x6 : Int) < 8) ∧ ((0 : Int) ≤ (w32 ((w32 (x4 * 8)) + (m 55 x6))) ∧ ((w32 ((w32 (x4 * 8)) + (m 55 x6))) : Int) < 96) ∧ jK d zX3_propose [jO 3 81, jO 4 54, jI x4, jI x6, jI (iOr x5 (iShl 1 (m 83 (w32 ((w32 (x4 * 8)) + (m 55 x6))))))] m (fun v1 m1 => aX3_split_14 d x4 0 (w32 (x6 + 1)) m1 Q)) ∧ (¬ x6 < (m 54 1) → Q 0 m)) :
    aX3_split_14 d x4 x5 x6 m Q := jWp_snd [(14, [true, true, false, false, true, true, true])] jcX3_split 31 rfl h
def aX3_propose_22 (d : Nat) (x2 x3 x4 x5 x6 : Int) (m : jM) (Q : Int → jM → Prop) : Prop := jA (d + 1) zX3_propose 22 [some (jO 3 81), some (jO 4 54), some (jI x2), some (jI x3), some (jI x4), some (jI x5), some (jI x6), none, none, none, none, none, none] [] m Q
def aX3_propose_55 (d : Nat) (x2 x3 x4 x5 x6 x7 x9 : Int) (m : jM) (Q : Int → jM → Prop) : Prop := jA (d + 1) zX3_propose 55 [some (jO 3 81), some (jO 4 54), some (jI x2), some (jI x3), some (jI x4), some (jI x5), some (jI x6), some (jL x7), none, some (jI x9), none, none, none] [] m Q
set_option maxRecDepth 100000 in
theorem gX3_propose (d : Nat) (x2 x3 x4 : Int) (m : jM) (Q : Int → jM → Prop)
    (h : ((m 81 3) < 97 → aX3_propose_22 d x2 x3 x4 (w32 ((m 81 3) * 8)) 0 m Q) ∧ (¬ (m 81 3) < 97 → Q 0 m)) :
    jK (d + 1) zX3_propose [jO 3 81, jO 4 54, jI x2, jI x3, jI x4] m Q := jWp_sn0 [(22, [true, true, true, true, true, true, true, false, false, false, false, false, false]), (55, [true, true, true, true, true, true, true, true, false, true, false, false, false])] jcX3_propose 12 rfl h
set_option maxRecDepth 100000 in
theorem gX3_propose_22 (d : Nat) (x2 x3 x4 x5 x6 : Int) (m : jM) (Q : Int → jM → Prop)
    (h : (x6 < 8 → ((0 : Int) ≤ (w32 (x5 + x6)) ∧ ((w32 (x5 + x6)) : Int) < 776) ∧ aX3_propose_22 d x2 x3 x4 x5 (w32 (x6 + 1)) (jUp m 85 (w32 (x5 + x6)) (-1)) Q) ∧ (¬ x6 < 8 → aX3_propose_55 d x2 x3 x4 x5 0 0 0 m Q)) :
    aX3_propose_22 d x2 x3 x4 x5 x6 m Q := jWp_snd [(22, [true, true, true, true, true, true, true, false, false, false, false, false, false]), (55, [true, true, true, true, true, true, true, true, false, true, false, false, false])] jcX3_propose 13 rfl h
set_option maxRecDepth 100000 in
theorem gX3_propose_55 (d : Nat) (x2 x3 x4 x5 x6 x7 x9 : Int) (m : jM) (Q : Int → jM → Prop)
    (h : (x9 < (m 54 1) → ((0 : Int) ≤ x9 ∧ (x9 : Int) < 8) ∧ (x9 = x3 → (x9 < x3 → ((0 : Int) ≤ (w32 ((w32 (x2 * 8)) + (m 55 x9))) ∧ ((w32 ((w32 (x2 * 8)) + (m 55 x9))) : Int) < 96) ∧ ((m 83 (w32 ((w32 (x2 * 8)) + (m 55 x9)))) = (-1) → Q 0 m) ∧ (¬ (m 83 (w32 ((w32 (x2 * 8)) + (m 55 x9)))) = (-1) → ((0 : Int) ≤ (w32 (x5 + (m 55 x9))) ∧ ((w32 (x5 + (m 55 x9))) : Int) < 776) ∧ ((0 : Int) ≤ (w32 ((w32 ((m 83 (w32 ((w32 (x2 * 8)) + (m 55 x9)))) * 8)) + (m 55 x9))) ∧ ((w32 ((w32 ((m 83 (w32 ((w32 (x2 * 8)) + (m 55 x9)))) * 8)) + (m 55 x9))) : Int) < 64) ∧ aX3_propose_55 d x2 x3 x4 x5 (iOr x6 (iShl 1 (m 83 (w32 ((w32 (x2 * 8)) + (m 55 x9)))))) (w64 (x7 + ((jUp m 85 (w32 (x5 + (m 55 x9))) (m 83 (w32 ((w32 (x2 * 8)) + (m 55 x9))))) 56 (w32 ((w32 ((m 83 (w32 ((w32 (x2 * 8)) + (m 55 x9)))) * 8)) + (m 55 x9)))))) (w32 (x9 + 1)) (jUp m 85 (w32 (x5 + (m 55 x9))) (m 83 (w32 ((w32 (x2 * 8)) + (m 55 x9))))) Q)) ∧ (¬ x9 < x3 → jK d zX4_firstLead [jO 4 54, jI x6, jI (m 55 x9), jI x4] m (fun v1 m1 => (v1 = (-1) → Q 0 m1) ∧ (¬ v1 = (-1) → ((0 : Int) ≤ (w32 (x5 + (m 55 x9))) ∧ ((w32 (x5 + (m 55 x9))) : Int) < 776) ∧ ((0 : Int) ≤ (w32 ((w32 (v1 * 8)) + (m 55 x9))) ∧ ((w32 ((w32 (v1 * 8)) + (m 55 x9))) : Int) < 64) ∧ aX3_propose_55 d x2 x3 x4 x5 (iOr x6 (iShl 1 v1)) (w64 (x7 + ((jUp m1 85 (w32 (x5 + (m 55 x9))) v1) 56 (w32 ((w32 (v1 * 8)) + (m 55 x9)))))) (w32 (x9 + 1)) (jUp m1 85 (w32 (x5 + (m 55 x9))) v1) Q)))) ∧ (¬ x9 = x3 → (x9 < x3 → ((0 : Int) ≤ (w32 ((w32 (x2 * 8)) + (m 55 x9))) ∧ ((w32 ((w32 (x2 * 8)) + (m 55 x9))) : Int) < 96) ∧ ((m 83 (w32 ((w32 (x2 * 8)) + (m 55 x9)))) = (-1) → Q 0 m) ∧ (¬ (m 83 (w32 ((w32 (x2 * 8)) + (m 55 x9)))) = (-1) → ((0 : Int) ≤ (w32 (x5 + (m 55 x9))) ∧ ((w32 (x5 + (m 55 x9))) : Int) < 776) ∧ ((0 : Int) ≤ (w32 ((w32 ((m 83 (w32 ((w32 (x2 * 8)) + (m 55 x9)))) * 8)) + (m 55 x9))) ∧ ((w32 ((w32 ((m 83 (w32 ((w32 (x2 * 8)) + (m 55 x9)))) * 8)) + (m 55 x9))) : Int) < 64) ∧ aX3_propose_55 d x2 x3 x4 x5 (iOr x6 (iShl 1 (m 83 (w32 ((w32 (x2 * 8)) + (m 55 x9)))))) (w64 (x7 + ((jUp m 85 (w32 (x5 + (m 55 x9))) (m 83 (w32 ((w32 (x2 * 8)) + (m 55 x9))))) 56 (w32 ((w32 ((m 83 (w32 ((w32 (x2 * 8)) + (m 55 x9)))) * 8)) + (m 55 x9)))))) (w32 (x9 + 1)) (jUp m 85 (w32 (x5 + (m 55 x9))) (m 83 (w32 ((w32 (x2 * 8)) + (m 55 x9))))) Q)) ∧ (¬ x9 < x3 → jK d zX4_firstLead [jO 4 54, jI x6, jI (m 55 x9), jI 0] m (fun v2 m2 => (v2 = (-1) → Q 0 m2) ∧ (¬ v2 = (-1) → ((0 : Int) ≤ (w32 (x5 + (m 55 x9))) ∧ ((w32 (x5 + (m 55 x9))) : Int) < 776) ∧ ((0 : Int) ≤ (w32 ((w32 (v2 * 8)) + (m 55 x9))) ∧ ((w32 ((w32 (v2 * 8)) + (m 55 x9))) : Int) < 64) ∧ aX3_propose_55 d x2 x3 x4 x5 (iOr x6 (iShl 1 v2)) (w64 (x7 + ((jUp m2 85 (w32 (x5 + (m 55 x9))) v2) 56 (w32 ((w32 (v2 * 8)) + (m 55 x9)))))) (w32 (x9 + 1)) (jUp m2 85 (w32 (x5 + (m 55 x9))) v2) Q))))) ∧ (¬ x9 < (m 54 1) → ((0 : Int) ≤ (m 81 3) ∧ ((m 81 3) : Int) < 97) ∧ ((0 : Int) ≤ ((jUp m 84 (m 81 3) x7) 81 3) ∧ (((jUp m 84 (m 81 3) x7) 81 3) : Int) < 97) ∧ ((0 : Int) ≤ ((jUp (jUp m 84 (m 81 3) x7) 86 ((jUp m 84 (m 81 3) x7) 81 3) x3) 81 3) ∧ (((jUp (jUp m 84 (m 81 3) x7) 86 ((jUp m 84 (m 81 3) x7) 81 3) x3) 81 3) : Int) < 97) ∧ Q 0 (jUp (jUp (jUp (jUp m 84 (m 81 3) x7) 86 ((jUp m 84 (m 81 3) x7) 81 3) x3) 87 ((jUp (jUp m 84 (m 81 3) x7) 86 ((jUp m 84 (m 81 3) x7) 81 3) x3) 81 3) x4) 81 3 (w32 (((jUp (jUp (jUp m 84 (m 81 3) x7) 86 ((jUp m 84 (m 81 3) x7) 81 3) x3) 87 ((jUp (jUp m 84 (m 81 3) x7) 86 ((jUp m 84 (m 81 3) x7) 81 3) x3) 81 3) x4) 81 3) + 1))))) :
    aX3_propose_55 d x2 x3 x4 x5 x6 x7 x9 m Q := jWp_snd [(22, [true, true, true, true, true, true, true, false, false, false, false, false, false]), (55, [true, true, true, true, true, true, true, true, false, true, false, false, false])] jcX3_propose 58 rfl h
def aX3_placeOf_2 (d : Nat) (n1 y1 x2 : Int) (m : jM) (Q : Int → jM → Prop) : Prop := jA (d + 1) zX3_placeOf 2 [some (jO 3 81), some (jY 0 n1 y1), some (jI x2), none, none] [] m Q
def aX3_placeOf_15 (d : Nat) (n1 y1 x2 x3 x4 : Int) (m : jM) (Q : Int → jM → Prop) : Prop := jA (d + 1) zX3_placeOf 15 [some (jO 3 81), some (jY 0 n1 y1), some (jI x2), some (jI x3), some (jI x4)] [] m Q
set_option maxRecDepth 100000 in
theorem gX3_placeOf (d : Nat) (n1 y1 : Int) (m : jM) (Q : Int → jM → Prop)
    (h : aX3_placeOf_2 d n1 y1 0 m Q) :
    jK (d + 1) zX3_placeOf [jO 3 81, jY 0 n1 y1] m Q := jWp_sn0 [(2, [true, true, true, false, false]), (15, [true, true, true, true, true])] jcX3_placeOf 3 rfl h
set_option maxRecDepth 100000 in
theorem gX3_placeOf_2 (d : Nat) (n1 y1 x2 : Int) (m : jM) (Q : Int → jM → Prop)
    (h : (x2 < (m 81 0) → aX3_placeOf_15 d n1 y1 x2 1 0 m Q) ∧ (¬ x2 < (m 81 0) → Q (-1) m)) :
    aX3_placeOf_2 d n1 y1 x2 m Q := jWp_snd [(2, [true, true, true, false, false]), (15, [true, true, true, true, true])] jcX3_placeOf 9 rfl h
set_option maxRecDepth 100000 in
theorem gX3_placeOf_15 (d : Nat) (n1 y1 x2 x3 x4 : Int) (m : jM) (Q : Int → jM → Prop)
    (h : (x4 < 8 → (x3 = 0 → aX3_placeOf_15 d n1 y1 x2 0 (w32 (x4 + 1)) m Q) ∧ (¬ x3 = 0 → ((0 : Int) ≤ (w32 ((w32 (x2 * 8)) + x4)) ∧ ((w32 ((w32 (x2 * 8)) + x4)) : Int) < 96) ∧ ((0 : Int) ≤ x4 ∧ (x4 : Int) < n1) ∧ ((m 83 (w32 ((w32 (x2 * 8)) + x4))) = (m y1 x4) → aX3_placeOf_15 d n1 y1 x2 1 (w32 (x4 + 1)) m Q) ∧ (¬ (m 83 (w32 ((w32 (x2 * 8)) + x4))) = (m y1 x4) → aX3_placeOf_15 d n1 y1 x2 0 (w32 (x4 + 1)) m Q))) ∧ (¬ x4 < 8 → (x3 = 0 → aX3_placeOf_2 d n1 y1 (w32 (x2 + 1)) m Q) ∧ (¬ x3 = 0 → Q x2 m))) :
    aX3_placeOf_15 d n1 y1 x2 x3 x4 m Q := jWp_snd [(2, [true, true, true, false, false]), (15, [true, true, true, true, true])] jcX3_placeOf 23 rfl h
def aX4_init_4 (d : Nat) (p0 : Int) (m : jM) (Q : Int → jM → Prop) : Prop := jA (d + 1) zX4_init 4 [some (jO 4 p0)] [] m Q
def aX4_init_9 (d : Nat) (p0 : Int) (m : jM) (Q : Int → jM → Prop) : Prop := jA (d + 1) zX4_init 9 [some (jO 4 p0)] [] m Q
def aX4_init_14 (d : Nat) (p0 : Int) (m : jM) (Q : Int → jM → Prop) : Prop := jA (d + 1) zX4_init 14 [some (jO 4 p0)] [] m Q
def aX4_init_22 (d : Nat) (p0 : Int) (m : jM) (Q : Int → jM → Prop) : Prop := jA (d + 1) zX4_init 22 [some (jO 4 p0)] [] m Q
def aX4_init_27 (d : Nat) (p0 : Int) (m : jM) (Q : Int → jM → Prop) : Prop := jA (d + 1) zX4_init 27 [some (jO 4 p0)] [] m Q
def aX4_init_35 (d : Nat) (p0 : Int) (m : jM) (Q : Int → jM → Prop) : Prop := jA (d + 1) zX4_init 35 [some (jO 4 p0)] [] m Q
def aX4_init_43 (d : Nat) (p0 : Int) (m : jM) (Q : Int → jM → Prop) : Prop := jA (d + 1) zX4_init 43 [some (jO 4 p0)] [] m Q
def aX4_init_52 (d : Nat) (p0 : Int) (m : jM) (Q : Int → jM → Prop) : Prop := jA (d + 1) zX4_init 52 [some (jO 4 p0)] [] m Q
def aX4_init_61 (d : Nat) (p0 : Int) (m : jM) (Q : Int → jM → Prop) : Prop := jA (d + 1) zX4_init 61 [some (jO 4 p0)] [] m Q
def aX4_init_70 (d : Nat) (p0 : Int) (m : jM) (Q : Int → jM → Prop) : Prop := jA (d + 1) zX4_init 70 [some (jO 4 p0)] [] m Q
def aX4_init_78 (d : Nat) (m : jM) (Q : Int → jM → Prop) : Prop := jA (d + 1) zX4_init 78 [none] [] m Q
set_option maxRecDepth 100000 in
theorem gX4_init (d : Nat) (p0 : Int) (m : jM) (Q : Int → jM → Prop)
    (h : aX4_init_4 d p0 m Q) :
    jK (d + 1) zX4_init [jO 4 p0] m Q := jWp_sn0 [(4, [true]), (9, [true]), (14, [true]), (22, [true]), (27, [true]), (35, [true]), (43, [true]), (52, [true]), (61, [true]), (70, [true]), (78, [false])] jcX4_init 3 rfl h
set_option maxRecDepth 100000 in
theorem gX4_init_4 (d : Nat) (p0 : Int) (m : jM) (Q : Int → jM → Prop)
    (h : aX4_init_9 d p0 (jUp m p0 0 0) Q) :
    aX4_init_4 d p0 m Q := jWp_snd [(4, [true]), (9, [true]), (14, [true]), (22, [true]), (27, [true]), (35, [true]), (43, [true]), (52, [true]), (61, [true]), (70, [true]), (78, [false])] jcX4_init 4 rfl h
set_option maxRecDepth 100000 in
theorem gX4_init_9 (d : Nat) (p0 : Int) (m : jM) (Q : Int → jM → Prop)
    (h : aX4_init_14 d p0 (jUp m p0 1 0) Q) :
    aX4_init_9 d p0 m Q := jWp_snd [(4, [true]), (9, [true]), (14, [true]), (22, [true]), (27, [true]), (35, [true]), (43, [true]), (52, [true]), (61, [true]), (70, [true]), (78, [false])] jcX4_init 4 rfl h
set_option maxRecDepth 100000 in
theorem gX4_init_14 (d : Nat) (p0 : Int) (m : jM) (Q : Int → jM → Prop)
    (h : (m (-3) 0 < m (-2) (-7) ∧ jKd (m (-3) 0) = 20 ∧ jLn (m (-3) 0) = 8) ∧ (m (-3) 0) = (p0 + 1) ∧ aX4_init_22 d p0 (jUp (jNw m) p0 2 (m (-3) 0)) Q) :
    aX4_init_14 d p0 m Q := jWp_snd [(4, [true]), (9, [true]), (14, [true]), (22, [true]), (27, [true]), (35, [true]), (43, [true]), (52, [true]), (61, [true]), (70, [true]), (78, [false])] jcX4_init 5 rfl h
set_option maxRecDepth 100000 in
theorem gX4_init_22 (d : Nat) (p0 : Int) (m : jM) (Q : Int → jM → Prop)
    (h : aX4_init_27 d p0 (jUp m p0 3 0) Q) :
    aX4_init_22 d p0 m Q := jWp_snd [(4, [true]), (9, [true]), (14, [true]), (22, [true]), (27, [true]), (35, [true]), (43, [true]), (52, [true]), (61, [true]), (70, [true]), (78, [false])] jcX4_init 4 rfl h
set_option maxRecDepth 100000 in
theorem gX4_init_27 (d : Nat) (p0 : Int) (m : jM) (Q : Int → jM → Prop)
    (h : (m (-3) 0 < m (-2) (-7) ∧ jKd (m (-3) 0) = 21 ∧ jLn (m (-3) 0) = 64) ∧ (m (-3) 0) = (p0 + 2) ∧ aX4_init_35 d p0 (jUp (jNw m) p0 4 (m (-3) 0)) Q) :
    aX4_init_27 d p0 m Q := jWp_snd [(4, [true]), (9, [true]), (14, [true]), (22, [true]), (27, [true]), (35, [true]), (43, [true]), (52, [true]), (61, [true]), (70, [true]), (78, [false])] jcX4_init 5 rfl h
set_option maxRecDepth 100000 in
theorem gX4_init_35 (d : Nat) (p0 : Int) (m : jM) (Q : Int → jM → Prop)
    (h : (m (-3) 0 < m (-2) (-7) ∧ jKd (m (-3) 0) = 20 ∧ jLn (m (-3) 0) = 8) ∧ (m (-3) 0) = (p0 + 3) ∧ aX4_init_43 d p0 (jUp (jNw m) p0 5 (m (-3) 0)) Q) :
    aX4_init_35 d p0 m Q := jWp_snd [(4, [true]), (9, [true]), (14, [true]), (22, [true]), (27, [true]), (35, [true]), (43, [true]), (52, [true]), (61, [true]), (70, [true]), (78, [false])] jcX4_init 5 rfl h
set_option maxRecDepth 100000 in
theorem gX4_init_43 (d : Nat) (p0 : Int) (m : jM) (Q : Int → jM → Prop)
    (h : (m (-3) 0 < m (-2) (-7) ∧ jKd (m (-3) 0) = 21 ∧ jLn (m (-3) 0) = 256) ∧ (m (-3) 0) = (p0 + 4) ∧ aX4_init_52 d p0 (jUp (jNw m) p0 6 (m (-3) 0)) Q) :
    aX4_init_43 d p0 m Q := jWp_snd [(4, [true]), (9, [true]), (14, [true]), (22, [true]), (27, [true]), (35, [true]), (43, [true]), (52, [true]), (61, [true]), (70, [true]), (78, [false])] jcX4_init 5 rfl h
set_option maxRecDepth 100000 in
theorem gX4_init_52 (d : Nat) (p0 : Int) (m : jM) (Q : Int → jM → Prop)
    (h : (m (-3) 0 < m (-2) (-7) ∧ jKd (m (-3) 0) = 20 ∧ jLn (m (-3) 0) = 256) ∧ (m (-3) 0) = (p0 + 5) ∧ aX4_init_61 d p0 (jUp (jNw m) p0 7 (m (-3) 0)) Q) :
    aX4_init_52 d p0 m Q := jWp_snd [(4, [true]), (9, [true]), (14, [true]), (22, [true]), (27, [true]), (35, [true]), (43, [true]), (52, [true]), (61, [true]), (70, [true]), (78, [false])] jcX4_init 5 rfl h
set_option maxRecDepth 100000 in
theorem gX4_init_61 (d : Nat) (p0 : Int) (m : jM) (Q : Int → jM → Prop)
    (h : (m (-3) 0 < m (-2) (-7) ∧ jKd (m (-3) 0) = 20 ∧ jLn (m (-3) 0) = 256) ∧ (m (-3) 0) = (p0 + 6) ∧ aX4_init_70 d p0 (jUp (jNw m) p0 8 (m (-3) 0)) Q) :
    aX4_init_61 d p0 m Q := jWp_snd [(4, [true]), (9, [true]), (14, [true]), (22, [true]), (27, [true]), (35, [true]), (43, [true]), (52, [true]), (61, [true]), (70, [true]), (78, [false])] jcX4_init 5 rfl h
set_option maxRecDepth 100000 in
theorem gX4_init_70 (d : Nat) (p0 : Int) (m : jM) (Q : Int → jM → Prop)
    (h : (m (-3) 0 < m (-2) (-7) ∧ jKd (m (-3) 0) = 20 ∧ jLn (m (-3) 0) = 64) ∧ (m (-3) 0) = (p0 + 7) ∧ aX4_init_78 d  (jUp (jNw m) p0 9 (m (-3) 0)) Q) :
    aX4_init_70 d p0 m Q := jWp_snd [(4, [true]), (9, [true]), (14, [true]), (22, [true]), (27, [true]), (35, [true]), (43, [true]), (52, [true]), (61, [true]), (70, [true]), (78, [false])] jcX4_init 5 rfl h
set_option maxRecDepth 100000 in
theorem gX4_init_78 (d : Nat) (m : jM) (Q : Int → jM → Prop)
    (h : m (-3) 0 = m (-2) (-7) ∧ Q 0 m) :
    aX4_init_78 d  m Q := jWp_snd [(4, [true]), (9, [true]), (14, [true]), (22, [true]), (27, [true]), (35, [true]), (43, [true]), (52, [true]), (61, [true]), (70, [true]), (78, [false])] jcX4_init 2 rfl h
def aX4_load_10 (d : Nat) (x3 : Int) (m : jM) (Q : Int → jM → Prop) : Prop := jA (d + 1) zX4_load 10 [some (jO 4 54), some (jO 0 1), some (jO 9 51), some (jI x3)] [] m Q
set_option maxRecDepth 100000 in
theorem gX4_load (d : Nat) (m : jM) (Q : Int → jM → Prop)
    (h : aX4_load_10 d 0 (jUp m 54 0 (m 1 1)) Q) :
    jK (d + 1) zX4_load [jO 4 54, jO 0 1, jO 9 51] m Q := jWp_sn0 [(10, [true, true, true, true])] jcX4_load 7 rfl h
set_option maxRecDepth 100000 in
theorem gX4_load_10 (d : Nat) (x3 : Int) (m : jM) (Q : Int → jM → Prop)
    (h : (x3 < 64 → jK d zX0_isIn [jO 0 1, jI x3] m (fun v1 m1 => (v1 = 0 → ((0 : Int) ≤ x3 ∧ (x3 : Int) < 64) ∧ aX4_load_10 d (w32 (x3 + 1)) (jUp m1 56 x3 (-4611686018427387904)) Q) ∧ (¬ v1 = 0 → jK d zX9_burdenOf [jO 9 51, jO 0 1, jI x3] m1 (fun v2 m2 => ((0 : Int) ≤ x3 ∧ (x3 : Int) < 64) ∧ aX4_load_10 d (w32 (x3 + 1)) (jUp m2 56 x3 v2) Q)))) ∧ (¬ x3 < 64 → jK d zX4_openBy [jO 4 54, jY 0 64 4] m (fun v3 m3 => Q 0 m3))) :
    aX4_load_10 d x3 m Q := jWp_snd [(10, [true, true, true, true])] jcX4_load 19 rfl h
set_option maxRecDepth 100000 in
theorem gX4_take (d : Nat) (p0 : Int) (m : jM) (Q : Int → jM → Prop)
    (h : ((0 : Int) ≤ 0 ∧ (0 : Int) ≤ 0 ∧ (0 : Int) ≤ 64 ∧ (0 : Int) + 64 ≤ 64 ∧ (0 : Int) + 64 ≤ 64) ∧ ((0 : Int) ≤ 0 ∧ (0 : Int) ≤ 0 ∧ (0 : Int) ≤ 8 ∧ (0 : Int) + 8 ≤ 8 ∧ (0 : Int) + 8 ≤ 8) ∧ Q 0 (jCp (jCp (jUp m p0 0 (m 54 0)) 56 0 (p0 + 2) 0 64) 57 0 (p0 + 3) 0 8)) :
    jK (d + 1) zX4_take [jO 4 p0, jO 4 54] m Q := jWp_sn0 [] jcX4_take 22 rfl h
def aX4_openBy_10 (d : Nat) (p0 n1 y1 x2 : Int) (m : jM) (Q : Int → jM → Prop) : Prop := jA (d + 1) zX4_openBy 10 [some (jO 4 p0), some (jY 0 n1 y1), some (jI x2)] [] m Q
def aX4_openBy_62 (d : Nat) (p0 n1 y1 x2 : Int) (m : jM) (Q : Int → jM → Prop) : Prop := jA (d + 1) zX4_openBy 62 [some (jO 4 p0), some (jY 0 n1 y1), some (jI x2)] [] m Q
set_option maxRecDepth 100000 in
theorem gX4_openBy (d : Nat) (p0 n1 y1 : Int) (m : jM) (Q : Int → jM → Prop)
    (h : jK d zJ7_fill_53178 [jY 0 8 (p0 + 3), jI 0] m (fun v1 m1 => aX4_openBy_10 d p0 n1 y1 0 m1 Q)) :
    jK (d + 1) zX4_openBy [jO 4 p0, jY 0 n1 y1] m Q := jWp_sn0 [(10, [true, true, true]), (62, [true, true, true])] jcX4_openBy 7 rfl h
set_option maxRecDepth 100000 in
theorem gX4_openBy_10 (d : Nat) (p0 n1 y1 x2 : Int) (m : jM) (Q : Int → jM → Prop)
    (h : (x2 < 64 → ((0 : Int) ≤ x2 ∧ (x2 : Int) < 64) ∧ ((m (p0 + 2) x2) = (-4611686018427387904) → aX4_openBy_10 d p0 n1 y1 (w32 (x2 + 1)) m Q) ∧ (¬ (m (p0 + 2) x2) = (-4611686018427387904) → ((0 : Int) ≤ x2 ∧ (x2 : Int) < n1) ∧ ((m y1 x2) = 1 → aX4_openBy_10 d p0 n1 y1 (w32 (x2 + 1)) m Q) ∧ (¬ (m y1 x2) = 1 → (8 : Int) ≠ 0 ∧ ((0 : Int) ≤ (iRem x2 8) ∧ ((iRem x2 8) : Int) < 8) ∧ (8 : Int) ≠ 0 ∧ ((0 : Int) ≤ (iRem x2 8) ∧ ((iRem x2 8) : Int) < 8) ∧ aX4_openBy_10 d p0 n1 y1 (w32 (x2 + 1)) (jUp m (p0 + 3) (iRem x2 8) (iOr (m (p0 + 3) (iRem x2 8)) (iShl 1 (iDiv x2 8)))) Q))) ∧ (¬ x2 < 64 → aX4_openBy_62 d p0 n1 y1 0 m Q)) :
    aX4_openBy_10 d p0 n1 y1 x2 m Q := jWp_snd [(10, [true, true, true]), (62, [true, true, true])] jcX4_openBy 31 rfl h
set_option maxRecDepth 100000 in
theorem gX4_openBy_62 (d : Nat) (p0 n1 y1 x2 : Int) (m : jM) (Q : Int → jM → Prop)
    (h : (x2 < 64 → ((0 : Int) ≤ x2 ∧ (x2 : Int) < n1) ∧ ((m y1 x2) = 2 → (8 : Int) ≠ 0 ∧ (8 : Int) ≠ 0 ∧ jK d zX4_force [jO 4 p0, jI (iShl 1 (iDiv x2 8)), jI (iRem x2 8)] m (fun v1 m1 => aX4_openBy_62 d p0 n1 y1 (w32 (x2 + 1)) m1 Q)) ∧ (¬ (m y1 x2) = 2 → aX4_openBy_62 d p0 n1 y1 (w32 (x2 + 1)) m Q)) ∧ (¬ x2 < 64 → Q 0 m)) :
    aX4_openBy_62 d p0 n1 y1 x2 m Q := jWp_snd [(10, [true, true, true]), (62, [true, true, true])] jcX4_openBy 21 rfl h
def aX4_force_2 (d : Nat) (p0 x1 x2 x3 : Int) (m : jM) (Q : Int → jM → Prop) : Prop := jA (d + 1) zX4_force 2 [some (jO 4 p0), some (jI x1), some (jI x2), some (jI x3)] [] m Q
set_option maxRecDepth 100000 in
theorem gX4_force (d : Nat) (p0 x1 x2 : Int) (m : jM) (Q : Int → jM → Prop)
    (h : aX4_force_2 d p0 x1 x2 0 m Q) :
    jK (d + 1) zX4_force [jO 4 p0, jI x1, jI x2] m Q := jWp_sn0 [(2, [true, true, true, true])] jcX4_force 3 rfl h
set_option maxRecDepth 100000 in
theorem gX4_force_2 (d : Nat) (p0 x1 x2 x3 : Int) (m : jM) (Q : Int → jM → Prop)
    (h : (x3 < 8 → ((0 : Int) ≤ x3 ∧ (x3 : Int) < 8) ∧ (x3 = x2 → ((0 : Int) ≤ x3 ∧ (x3 : Int) < 8) ∧ aX4_force_2 d p0 x1 x2 (w32 (x3 + 1)) (jUp m (p0 + 3) x3 (iAnd (m (p0 + 3) x3) x1)) Q) ∧ (¬ x3 = x2 → ((0 : Int) ≤ x3 ∧ (x3 : Int) < 8) ∧ aX4_force_2 d p0 x1 x2 (w32 (x3 + 1)) (jUp m (p0 + 3) x3 (iAnd (m (p0 + 3) x3) (iXor x1 (-1)))) Q)) ∧ (¬ x3 < 8 → Q 0 m)) :
    aX4_force_2 d p0 x1 x2 x3 m Q := jWp_snd [(2, [true, true, true, true])] jcX4_force 19 rfl h
set_option maxRecDepth 100000 in
theorem gX4_isOpen (d : Nat) (p0 x1 x2 : Int) (m : jM) (Q : Int → jM → Prop)
    (h : ((0 : Int) ≤ x2 ∧ (x2 : Int) < 8) ∧ ((iAnd (iShr (m (p0 + 3) x2) x1) 1) = 1 → Q 1 m) ∧ (¬ (iAnd (iShr (m (p0 + 3) x2) x1) 1) = 1 → Q 0 m)) :
    jK (d + 1) zX4_isOpen [jO 4 p0, jI x1, jI x2] m Q := jWp_sn0 [] jcX4_isOpen 14 rfl h
def aX4_openPairs_4 (d : Nat) (p0 x1 x2 : Int) (m : jM) (Q : Int → jM → Prop) : Prop := jA (d + 1) zX4_openPairs 4 [some (jO 4 p0), some (jI x1), some (jI x2)] [] m Q
set_option maxRecDepth 100000 in
theorem gX4_openPairs (d : Nat) (p0 : Int) (m : jM) (Q : Int → jM → Prop)
    (h : aX4_openPairs_4 d p0 0 0 m Q) :
    jK (d + 1) zX4_openPairs [jO 4 p0] m Q := jWp_sn0 [(4, [true, true, true])] jcX4_openPairs 5 rfl h
set_option maxRecDepth 100000 in
theorem gX4_openPairs_4 (d : Nat) (p0 x1 x2 : Int) (m : jM) (Q : Int → jM → Prop)
    (h : (x2 < 8 → ((0 : Int) ≤ x2 ∧ (x2 : Int) < 8) ∧ jK d zJ6_bitCount_0f7a4 [jI (m (p0 + 3) x2)] m (fun v1 m1 => aX4_openPairs_4 d p0 (w32 (x1 + v1)) (w32 (x2 + 1)) m1 Q)) ∧ (¬ x2 < 8 → Q x1 m)) :
    aX4_openPairs_4 d p0 x1 x2 m Q := jWp_snd [(4, [true, true, true])] jcX4_openPairs 14 rfl h
def aX4_closeJudge_2 (d : Nat) (p0 x1 x2 : Int) (m : jM) (Q : Int → jM → Prop) : Prop := jA (d + 1) zX4_closeJudge 2 [some (jO 4 p0), some (jI x1), some (jI x2)] [] m Q
set_option maxRecDepth 100000 in
theorem gX4_closeJudge (d : Nat) (p0 x1 : Int) (m : jM) (Q : Int → jM → Prop)
    (h : aX4_closeJudge_2 d p0 x1 0 m Q) :
    jK (d + 1) zX4_closeJudge [jO 4 p0, jI x1] m Q := jWp_sn0 [(2, [true, true, true])] jcX4_closeJudge 3 rfl h
set_option maxRecDepth 100000 in
theorem gX4_closeJudge_2 (d : Nat) (p0 x1 x2 : Int) (m : jM) (Q : Int → jM → Prop)
    (h : (x2 < 8 → ((0 : Int) ≤ x2 ∧ (x2 : Int) < 8) ∧ ((0 : Int) ≤ x2 ∧ (x2 : Int) < 8) ∧ aX4_closeJudge_2 d p0 x1 (w32 (x2 + 1)) (jUp m (p0 + 3) x2 (iAnd (m (p0 + 3) x2) (iXor (iShl 1 x1) (-1)))) Q) ∧ (¬ x2 < 8 → Q 0 m)) :
    aX4_closeJudge_2 d p0 x1 x2 m Q := jWp_snd [(2, [true, true, true])] jcX4_closeJudge 18 rfl h
def aX4_closeHeavier_2 (d : Nat) (p0 x1 x3 : Int) (m : jM) (Q : Int → jM → Prop) : Prop := jA (d + 1) zX4_closeHeavier 2 [some (jO 4 p0), some (jL x1), none, some (jI x3)] [] m Q
set_option maxRecDepth 100000 in
theorem gX4_closeHeavier (d : Nat) (p0 x1 : Int) (m : jM) (Q : Int → jM → Prop)
    (h : aX4_closeHeavier_2 d p0 x1 0 m Q) :
    jK (d + 1) zX4_closeHeavier [jO 4 p0, jL x1] m Q := jWp_sn0 [(2, [true, true, false, true])] jcX4_closeHeavier 3 rfl h
set_option maxRecDepth 100000 in
theorem gX4_closeHeavier_2 (d : Nat) (p0 x1 x3 : Int) (m : jM) (Q : Int → jM → Prop)
    (h : (x3 < 64 → ((0 : Int) ≤ x3 ∧ (x3 : Int) < 64) ∧ (x1 < (m (p0 + 2) x3) → (8 : Int) ≠ 0 ∧ ((0 : Int) ≤ (iRem x3 8) ∧ ((iRem x3 8) : Int) < 8) ∧ (8 : Int) ≠ 0 ∧ ((0 : Int) ≤ (iRem x3 8) ∧ ((iRem x3 8) : Int) < 8) ∧ aX4_closeHeavier_2 d p0 x1 (w32 (x3 + 1)) (jUp m (p0 + 3) (iRem x3 8) (iAnd (m (p0 + 3) (iRem x3 8)) (iXor (iShl 1 (iDiv x3 8)) (-1)))) Q) ∧ (¬ x1 < (m (p0 + 2) x3) → aX4_closeHeavier_2 d p0 x1 (w32 (x3 + 1)) m Q)) ∧ (¬ x3 < 64 → Q 0 m)) :
    aX4_closeHeavier_2 d p0 x1 x3 m Q := jWp_snd [(2, [true, true, false, true])] jcX4_closeHeavier 28 rfl h
def aX4_heavierThan_5 (d : Nat) (p0 x1 x3 x4 : Int) (m : jM) (Q : Int → jM → Prop) : Prop := jA (d + 1) zX4_heavierThan 5 [some (jO 4 p0), some (jL x1), none, some (jI x3), some (jI x4)] [] m Q
set_option maxRecDepth 100000 in
theorem gX4_heavierThan (d : Nat) (p0 x1 : Int) (m : jM) (Q : Int → jM → Prop)
    (h : aX4_heavierThan_5 d p0 x1 0 0 m Q) :
    jK (d + 1) zX4_heavierThan [jO 4 p0, jL x1] m Q := jWp_sn0 [(5, [true, true, false, true, true])] jcX4_heavierThan 5 rfl h
set_option maxRecDepth 100000 in
theorem gX4_heavierThan_5 (d : Nat) (p0 x1 x3 x4 : Int) (m : jM) (Q : Int → jM → Prop)
    (h : (x4 < 64 → (8 : Int) ≠ 0 ∧ (8 : Int) ≠ 0 ∧ jK d zX4_isOpen [jO 4 p0, jI (iDiv x4 8), jI (iRem x4 8)] m (fun v1 m1 => (v1 = 0 → aX4_heavierThan_5 d p0 x1 (w32 (x3 + 0)) (w32 (x4 + 1)) m1 Q) ∧ (¬ v1 = 0 → ((0 : Int) ≤ x4 ∧ (x4 : Int) < 64) ∧ (x1 < (m1 (p0 + 2) x4) → aX4_heavierThan_5 d p0 x1 (w32 (x3 + 1)) (w32 (x4 + 1)) m1 Q) ∧ (¬ x1 < (m1 (p0 + 2) x4) → aX4_heavierThan_5 d p0 x1 (w32 (x3 + 0)) (w32 (x4 + 1)) m1 Q)))) ∧ (¬ x4 < 64 → Q x3 m)) :
    aX4_heavierThan_5 d p0 x1 x3 x4 m Q := jWp_snd [(5, [true, true, false, true, true])] jcX4_heavierThan 26 rfl h
def aX4_weigh_8 (d : Nat) (p0 x1 x2 : Int) (m : jM) (Q : Int → jM → Prop) : Prop := jA (d + 1) zX4_weigh 8 [some (jO 4 p0), some (jI x1), some (jI x2), none] [] m Q
set_option maxRecDepth 100000 in
theorem gX4_weigh (d : Nat) (p0 x1 : Int) (m : jM) (Q : Int → jM → Prop)
    (h : jK d zX4_listCases [jO 4 p0] m (fun v1 m1 => aX4_weigh_8 d p0 x1 255 m1 Q)) :
    jK (d + 1) zX4_weigh [jO 4 p0, jI x1] m Q := jWp_sn0 [(8, [true, true, true, false])] jcX4_weigh 5 rfl h
set_option maxRecDepth 100000 in
theorem gX4_weigh_8 (d : Nat) (p0 x1 x2 : Int) (m : jM) (Q : Int → jM → Prop)
    (h : (x2 < 0 → Q 0 m) ∧ (¬ x2 < 0 → jK d zX4_canTake [jO 4 p0, jI x2] m (fun v1 m1 => (v1 = 0 → aX4_weigh_8 d p0 x1 (w32 (x2 + (-1))) m1 Q) ∧ (¬ v1 = 0 → jK d zJ6_bitCount_0f7a4 [jI x2] m1 (fun v2 m2 => (v2 < (m2 p0 1) → ((0 : Int) ≤ v2 ∧ (v2 : Int) < 8) ∧ jK d zX4_weighFrom [jO 4 p0, jI x2, jI (m2 (p0 + 1) v2), jI x1] m2 (fun v3 m3 => aX4_weigh_8 d p0 x1 (w32 (x2 + (-1))) m3 Q)) ∧ (¬ v2 < (m2 p0 1) → ((0 : Int) ≤ x2 ∧ (x2 : Int) < 256) ∧ ((0 : Int) ≤ x2 ∧ (x2 : Int) < 256) ∧ aX4_weigh_8 d p0 x1 (w32 (x2 + (-1))) (jUp (jUp m2 (p0 + 4) x2 0) (p0 + 5) x2 1) Q)))))) :
    aX4_weigh_8 d p0 x1 x2 m Q := jWp_snd [(8, [true, true, true, false])] jcX4_weigh 26 rfl h
def aX4_listCases_12 (d : Nat) (p0 x1 : Int) (m : jM) (Q : Int → jM → Prop) : Prop := jA (d + 1) zX4_listCases 12 [some (jO 4 p0), some (jI x1)] [] m Q
set_option maxRecDepth 100000 in
theorem gX4_listCases (d : Nat) (p0 : Int) (m : jM) (Q : Int → jM → Prop)
    (h : aX4_listCases_12 d p0 0 (jUp (jUp m p0 1 0) p0 3 0) Q) :
    jK (d + 1) zX4_listCases [jO 4 p0] m Q := jWp_sn0 [(12, [true, true])] jcX4_listCases 9 rfl h
set_option maxRecDepth 100000 in
theorem gX4_listCases_12 (d : Nat) (p0 x1 : Int) (m : jM) (Q : Int → jM → Prop)
    (h : (x1 < 8 → ((iAnd (iShr (m p0 0) x1) 1) = 1 → ((0 : Int) ≤ (m p0 1) ∧ ((m p0 1) : Int) < 8) ∧ ((0 : Int) ≤ x1 ∧ (x1 : Int) < 8) ∧ aX4_listCases_12 d p0 (w32 (x1 + 1)) (jUp (jUp (jUp m (p0 + 1) (m p0 1) x1) p0 1 (w32 (((jUp m (p0 + 1) (m p0 1) x1) p0 1) + 1))) p0 3 (iOr ((jUp (jUp m (p0 + 1) (m p0 1) x1) p0 1 (w32 (((jUp m (p0 + 1) (m p0 1) x1) p0 1) + 1))) p0 3) ((jUp (jUp m (p0 + 1) (m p0 1) x1) p0 1 (w32 (((jUp m (p0 + 1) (m p0 1) x1) p0 1) + 1))) (p0 + 3) x1))) Q) ∧ (¬ (iAnd (iShr (m p0 0) x1) 1) = 1 → aX4_listCases_12 d p0 (w32 (x1 + 1)) m Q)) ∧ (¬ x1 < 8 → Q 0 m)) :
    aX4_listCases_12 d p0 x1 m Q := jWp_snd [(12, [true, true])] jcX4_listCases 35 rfl h
set_option maxRecDepth 100000 in
theorem gX4_canTake (d : Nat) (p0 x1 : Int) (m : jM) (Q : Int → jM → Prop)
    (h : ((iAnd x1 (iXor (m p0 3) (-1))) = 0 → Q 1 m) ∧ (¬ (iAnd x1 (iXor (m p0 3) (-1))) = 0 → Q 0 m)) :
    jK (d + 1) zX4_canTake [jO 4 p0, jI x1] m Q := jWp_sn0 [] jcX4_canTake 11 rfl h
def aX4_weighFrom_23 (d : Nat) (p0 x1 x2 x3 x4 x6 x7 x8 : Int) (m : jM) (Q : Int → jM → Prop) : Prop := jA (d + 1) zX4_weighFrom 23 [some (jO 4 p0), some (jI x1), some (jI x2), some (jI x3), some (jL x4), none, some (jI x6), some (jI x7), some (jI x8), none, none, none, none, none, none, none] [] m Q
def aX4_weighFrom_131 (d : Nat) (p0 x1 x2 x3 x4 x6 x7 x8 x9 x14 : Int) (m : jM) (Q : Int → jM → Prop) : Prop := jA (d + 1) zX4_weighFrom 131 [some (jO 4 p0), some (jI x1), some (jI x2), some (jI x3), some (jL x4), none, some (jI x6), some (jI x7), some (jI x8), some (jI x9), none, none, none, none, some (jL x14), none] [] m Q
set_option maxRecDepth 100000 in
theorem gX4_weighFrom (d : Nat) (p0 x1 x2 x3 : Int) (m : jM) (Q : Int → jM → Prop)
    (h : ((0 : Int) ≤ x2 ∧ (x2 : Int) < 8) ∧ aX4_weighFrom_23 d p0 x1 x2 x3 (-4611686018427387904) 0 (iAnd (m (p0 + 3) x2) (iXor x1 (-1))) 0 m Q) :
    jK (d + 1) zX4_weighFrom [jO 4 p0, jI x1, jI x2, jI x3] m Q := jWp_sn0 [(23, [true, true, true, true, true, false, true, true, true, false, false, false, false, false, false, false]), (131, [true, true, true, true, true, false, true, true, true, true, false, false, false, false, true, false])] jcX4_weighFrom 16 rfl h
set_option maxRecDepth 100000 in
theorem gX4_weighFrom_23 (d : Nat) (p0 x1 x2 x3 x4 x6 x7 x8 : Int) (m : jM) (Q : Int → jM → Prop)
    (h : (x8 < 8 → ((iAnd (iShr x7 x8) 1) = 0 → aX4_weighFrom_23 d p0 x1 x2 x3 x4 x6 x7 (w32 (x8 + 1)) m Q) ∧ (¬ (iAnd (iShr x7 x8) 1) = 0 → ((0 : Int) ≤ (iOr x1 (iShl 1 x8)) ∧ ((iOr x1 (iShl 1 x8)) : Int) < 256) ∧ ((m (p0 + 4) (iOr x1 (iShl 1 x8))) = (-4611686018427387904) → aX4_weighFrom_23 d p0 x1 x2 x3 x4 x6 x7 (w32 (x8 + 1)) m Q) ∧ (¬ (m (p0 + 4) (iOr x1 (iShl 1 x8))) = (-4611686018427387904) → ((0 : Int) ≤ (w32 ((w32 (x8 * 8)) + x2)) ∧ ((w32 ((w32 (x8 * 8)) + x2)) : Int) < 64) ∧ (x3 = 0 → (x4 = (-4611686018427387904) → aX4_weighFrom_131 d p0 x1 x2 x3 (w64 ((m (p0 + 2) (w32 ((w32 (x8 * 8)) + x2))) + (m (p0 + 4) (iOr x1 (iShl 1 x8))))) 0 x7 x8 (iOr x1 (iShl 1 x8)) (w64 ((m (p0 + 2) (w32 ((w32 (x8 * 8)) + x2))) + (m (p0 + 4) (iOr x1 (iShl 1 x8))))) m Q) ∧ (¬ x4 = (-4611686018427387904) → ((w64 ((m (p0 + 2) (w32 ((w32 (x8 * 8)) + x2))) + (m (p0 + 4) (iOr x1 (iShl 1 x8))))) < x4 → aX4_weighFrom_131 d p0 x1 x2 x3 (w64 ((m (p0 + 2) (w32 ((w32 (x8 * 8)) + x2))) + (m (p0 + 4) (iOr x1 (iShl 1 x8))))) 0 x7 x8 (iOr x1 (iShl 1 x8)) (w64 ((m (p0 + 2) (w32 ((w32 (x8 * 8)) + x2))) + (m (p0 + 4) (iOr x1 (iShl 1 x8))))) m Q) ∧ (¬ (w64 ((m (p0 + 2) (w32 ((w32 (x8 * 8)) + x2))) + (m (p0 + 4) (iOr x1 (iShl 1 x8))))) < x4 → aX4_weighFrom_131 d p0 x1 x2 x3 x4 x6 x7 x8 (iOr x1 (iShl 1 x8)) (w64 ((m (p0 + 2) (w32 ((w32 (x8 * 8)) + x2))) + (m (p0 + 4) (iOr x1 (iShl 1 x8))))) m Q))) ∧ (¬ x3 = 0 → jK d zJ9_max_f86c9 [jL (m (p0 + 2) (w32 ((w32 (x8 * 8)) + x2))), jL (m (p0 + 4) (iOr x1 (iShl 1 x8)))] m (fun v1 m1 => (x4 = (-4611686018427387904) → aX4_weighFrom_131 d p0 x1 x2 x3 v1 0 x7 x8 (iOr x1 (iShl 1 x8)) v1 m1 Q) ∧ (¬ x4 = (-4611686018427387904) → (v1 < x4 → aX4_weighFrom_131 d p0 x1 x2 x3 v1 0 x7 x8 (iOr x1 (iShl 1 x8)) v1 m1 Q) ∧ (¬ v1 < x4 → aX4_weighFrom_131 d p0 x1 x2 x3 x4 x6 x7 x8 (iOr x1 (iShl 1 x8)) v1 m1 Q))))))) ∧ (¬ x8 < 8 → ((0 : Int) ≤ x1 ∧ (x1 : Int) < 256) ∧ ((0 : Int) ≤ x1 ∧ (x1 : Int) < 256) ∧ Q 0 (jUp (jUp m (p0 + 4) x1 x4) (p0 + 5) x1 x6))) :
    aX4_weighFrom_23 d p0 x1 x2 x3 x4 x6 x7 x8 m Q := jWp_snd [(23, [true, true, true, true, true, false, true, true, true, false, false, false, false, false, false, false]), (131, [true, true, true, true, true, false, true, true, true, true, false, false, false, false, true, false])] jcX4_weighFrom 50 rfl h
set_option maxRecDepth 100000 in
theorem gX4_weighFrom_131 (d : Nat) (p0 x1 x2 x3 x4 x6 x7 x8 x9 x14 : Int) (m : jM) (Q : Int → jM → Prop)
    (h : (x14 = x4 → ((0 : Int) ≤ x9 ∧ (x9 : Int) < 256) ∧ aX4_weighFrom_23 d p0 x1 x2 x3 x4 (w32 (x6 + (m (p0 + 5) x9))) x7 (w32 (x8 + 1)) m Q) ∧ (¬ x14 = x4 → aX4_weighFrom_23 d p0 x1 x2 x3 x4 (w32 (x6 + 0)) x7 (w32 (x8 + 1)) m Q)) :
    aX4_weighFrom_131 d p0 x1 x2 x3 x4 x6 x7 x8 x9 x14 m Q := jWp_snd [(23, [true, true, true, true, true, false, true, true, true, false, false, false, false, false, false, false]), (131, [true, true, true, true, true, false, true, true, true, true, false, false, false, false, true, false])] jcX4_weighFrom 14 rfl h
set_option maxRecDepth 100000 in
theorem gX4_leads (d : Nat) (p0 x1 x2 x3 : Int) (m : jM) (Q : Int → jM → Prop)
    (h : ((0 : Int) ≤ x3 ∧ (x3 : Int) < 8) ∧ ((iAnd (iAnd (m (p0 + 3) x3) (iXor x1 (-1))) (iShl 1 x2)) = 0 → Q 0 m) ∧ (¬ (iAnd (iAnd (m (p0 + 3) x3) (iXor x1 (-1))) (iShl 1 x2)) = 0 → ((0 : Int) ≤ (iOr x1 (iShl 1 x2)) ∧ ((iOr x1 (iShl 1 x2)) : Int) < 256) ∧ ((m (p0 + 4) (iOr x1 (iShl 1 x2))) = (-4611686018427387904) → Q 0 m) ∧ (¬ (m (p0 + 4) (iOr x1 (iShl 1 x2))) = (-4611686018427387904) → ((0 : Int) ≤ (w32 ((w32 (x2 * 8)) + x3)) ∧ ((w32 ((w32 (x2 * 8)) + x3)) : Int) < 64) ∧ ((0 : Int) ≤ (iOr x1 (iShl 1 x2)) ∧ ((iOr x1 (iShl 1 x2)) : Int) < 256) ∧ ((0 : Int) ≤ x1 ∧ (x1 : Int) < 256) ∧ ((w64 ((m (p0 + 2) (w32 ((w32 (x2 * 8)) + x3))) + (m (p0 + 4) (iOr x1 (iShl 1 x2))))) = (m (p0 + 4) x1) → Q 1 m) ∧ (¬ (w64 ((m (p0 + 2) (w32 ((w32 (x2 * 8)) + x3))) + (m (p0 + 4) (iOr x1 (iShl 1 x2))))) = (m (p0 + 4) x1) → Q 0 m)))) :
    jK (d + 1) zX4_leads [jO 4 p0, jI x1, jI x2, jI x3] m Q := jWp_sn0 [] jcX4_leads 47 rfl h
def aX4_firstLead_27 (d : Nat) (p0 x1 x2 x4 x5 x7 x8 : Int) (m : jM) (Q : Int → jM → Prop) : Prop := jA (d + 1) zX4_firstLead 27 [some (jO 4 p0), some (jI x1), some (jI x2), none, some (jI x4), some (jL x5), none, some (jI x7), some (jI x8), none, none] [] m Q
set_option maxRecDepth 100000 in
theorem gX4_firstLead (d : Nat) (p0 x1 x2 x3 : Int) (m : jM) (Q : Int → jM → Prop)
    (h : ((0 : Int) ≤ x2 ∧ (x2 : Int) < 8) ∧ aX4_firstLead_27 d p0 x1 x2 (-1) (-4611686018427387904) (iAnd (iAnd (m (p0 + 3) x2) (iXor x1 (-1))) (iXor x3 (-1))) 0 m Q) :
    jK (d + 1) zX4_firstLead [jO 4 p0, jI x1, jI x2, jI x3] m Q := jWp_sn0 [(27, [true, true, true, false, true, true, false, true, true, false, false])] jcX4_firstLead 20 rfl h
set_option maxRecDepth 100000 in
theorem gX4_firstLead_27 (d : Nat) (p0 x1 x2 x4 x5 x7 x8 : Int) (m : jM) (Q : Int → jM → Prop)
    (h : (x8 < 8 → ((iAnd (iShr x7 x8) 1) = 0 → aX4_firstLead_27 d p0 x1 x2 x4 x5 x7 (w32 (x8 + 1)) m Q) ∧ (¬ (iAnd (iShr x7 x8) 1) = 0 → ((0 : Int) ≤ (iOr x1 (iShl 1 x8)) ∧ ((iOr x1 (iShl 1 x8)) : Int) < 256) ∧ ((m (p0 + 4) (iOr x1 (iShl 1 x8))) = (-4611686018427387904) → aX4_firstLead_27 d p0 x1 x2 x4 x5 x7 (w32 (x8 + 1)) m Q) ∧ (¬ (m (p0 + 4) (iOr x1 (iShl 1 x8))) = (-4611686018427387904) → ((0 : Int) ≤ (w32 ((w32 (x8 * 8)) + x2)) ∧ ((w32 ((w32 (x8 * 8)) + x2)) : Int) < 64) ∧ ((0 : Int) ≤ (iOr x1 (iShl 1 x8)) ∧ ((iOr x1 (iShl 1 x8)) : Int) < 256) ∧ (x4 = (-1) → aX4_firstLead_27 d p0 x1 x2 x8 (w64 ((m (p0 + 2) (w32 ((w32 (x8 * 8)) + x2))) + (m (p0 + 4) (iOr x1 (iShl 1 x8))))) x7 (w32 (x8 + 1)) m Q) ∧ (¬ x4 = (-1) → ((w64 ((m (p0 + 2) (w32 ((w32 (x8 * 8)) + x2))) + (m (p0 + 4) (iOr x1 (iShl 1 x8))))) < x5 → aX4_firstLead_27 d p0 x1 x2 x8 (w64 ((m (p0 + 2) (w32 ((w32 (x8 * 8)) + x2))) + (m (p0 + 4) (iOr x1 (iShl 1 x8))))) x7 (w32 (x8 + 1)) m Q) ∧ (¬ (w64 ((m (p0 + 2) (w32 ((w32 (x8 * 8)) + x2))) + (m (p0 + 4) (iOr x1 (iShl 1 x8))))) < x5 → aX4_firstLead_27 d p0 x1 x2 x4 x5 x7 (w32 (x8 + 1)) m Q))))) ∧ (¬ x8 < 8 → Q x4 m)) :
    aX4_firstLead_27 d p0 x1 x2 x4 x5 x7 x8 m Q := jWp_snd [(27, [true, true, true, false, true, true, false, true, true, false, false])] jcX4_firstLead 50 rfl h
def aX4_pick_13 (d : Nat) (p0 n2 y2 x3 x4 x5 : Int) (m : jM) (Q : Int → jM → Prop) : Prop := jA (d + 1) zX4_pick 13 [some (jO 4 p0), none, some (jY 0 n2 y2), some (jI x3), some (jI x4), some (jI x5), none, none, none] [] m Q
def aX4_pick_34 (d : Nat) (p0 n2 y2 x3 x4 x5 x6 x7 : Int) (m : jM) (Q : Int → jM → Prop) : Prop := jA (d + 1) zX4_pick 34 [some (jO 4 p0), none, some (jY 0 n2 y2), some (jI x3), some (jI x4), some (jI x5), some (jI x6), some (jI x7), none] [] m Q
set_option maxRecDepth 100000 in
theorem gX4_pick (d : Nat) (p0 x1 n2 y2 : Int) (m : jM) (Q : Int → jM → Prop)
    (h : jK d zJ7_fill_53178 [jY 0 n2 y2, jI (-1)] m (fun v1 m1 => aX4_pick_13 d p0 n2 y2 0 x1 0 m1 Q)) :
    jK (d + 1) zX4_pick [jO 4 p0, jI x1, jY 0 n2 y2] m Q := jWp_sn0 [(13, [true, false, true, true, true, true, false, false, false]), (34, [true, false, true, true, true, true, true, true, false])] jcX4_pick 10 rfl h
set_option maxRecDepth 100000 in
theorem gX4_pick_13 (d : Nat) (p0 n2 y2 x3 x4 x5 : Int) (m : jM) (Q : Int → jM → Prop)
    (h : (x5 < (m p0 1) → ((0 : Int) ≤ x5 ∧ (x5 : Int) < 8) ∧ aX4_pick_34 d p0 n2 y2 x3 x4 x5 (m (p0 + 1) x5) 0 m Q) ∧ (¬ x5 < (m p0 1) → Q 0 m)) :
    aX4_pick_13 d p0 n2 y2 x3 x4 x5 m Q := jWp_snd [(13, [true, false, true, true, true, true, false, false, false]), (34, [true, false, true, true, true, true, true, true, false])] jcX4_pick 12 rfl h
set_option maxRecDepth 100000 in
theorem gX4_pick_34 (d : Nat) (p0 n2 y2 x3 x4 x5 x6 x7 : Int) (m : jM) (Q : Int → jM → Prop)
    (h : (x7 < 8 → ((0 : Int) ≤ x6 ∧ (x6 : Int) < n2) ∧ ((m y2 x6) = (-1) → jK d zX4_leads [jO 4 p0, jI x3, jI x7, jI x6] m (fun v1 m1 => (v1 = 0 → aX4_pick_34 d p0 n2 y2 x3 x4 x5 x6 (w32 (x7 + 1)) m1 Q) ∧ (¬ v1 = 0 → ((0 : Int) ≤ (iOr x3 (iShl 1 x7)) ∧ ((iOr x3 (iShl 1 x7)) : Int) < 256) ∧ (x4 < (m1 (p0 + 5) (iOr x3 (iShl 1 x7))) → ((0 : Int) ≤ x6 ∧ (x6 : Int) < n2) ∧ aX4_pick_34 d p0 n2 y2 (iOr x3 (iShl 1 x7)) x4 x5 x6 (w32 (x7 + 1)) (jUp m1 y2 x6 x7) Q) ∧ (¬ x4 < (m1 (p0 + 5) (iOr x3 (iShl 1 x7))) → ((0 : Int) ≤ (iOr x3 (iShl 1 x7)) ∧ ((iOr x3 (iShl 1 x7)) : Int) < 256) ∧ aX4_pick_34 d p0 n2 y2 x3 (w32 (x4 - (m1 (p0 + 5) (iOr x3 (iShl 1 x7))))) x5 x6 (w32 (x7 + 1)) m1 Q)))) ∧ (¬ (m y2 x6) = (-1) → aX4_pick_13 d p0 n2 y2 x3 x4 (w32 (x5 + 1)) m Q)) ∧ (¬ x7 < 8 → aX4_pick_13 d p0 n2 y2 x3 x4 (w32 (x5 + 1)) m Q)) :
    aX4_pick_34 d p0 n2 y2 x3 x4 x5 x6 x7 m Q := jWp_snd [(13, [true, false, true, true, true, true, false, false, false]), (34, [true, false, true, true, true, true, true, true, false])] jcX4_pick 38 rfl h
def aX4_share_38 (d : Nat) (p0 x1 : Int) (m : jM) (Q : Int → jM → Prop) : Prop := jA (d + 1) zX4_share 38 [some (jO 4 p0), some (jI x1), none] [] m Q
set_option maxRecDepth 100000 in
theorem gX4_share (d : Nat) (p0 : Int) (m : jM) (Q : Int → jM → Prop)
    (h : jK d zJ7_fill_53178 [jY 0 64 (p0 + 7), jI 0] m (fun v1 m1 => jK d zJ7_fill_53178 [jY 0 256 (p0 + 6), jI 0] m1 (fun v2 m2 => ((0 : Int) ≤ 0 ∧ (0 : Int) < 256) ∧ ((m2 (p0 + 5) 0) = 0 → ((0 : Int) ≤ 0 ∧ (0 : Int) < 256) ∧ aX4_share_38 d p0 0 (jUp m2 (p0 + 6) 0 0) Q) ∧ (¬ (m2 (p0 + 5) 0) = 0 → ((0 : Int) ≤ 0 ∧ (0 : Int) < 256) ∧ aX4_share_38 d p0 0 (jUp m2 (p0 + 6) 0 1) Q)))) :
    jK (d + 1) zX4_share [jO 4 p0] m Q := jWp_sn0 [(38, [true, true, false])] jcX4_share 22 rfl h
set_option maxRecDepth 100000 in
theorem gX4_share_38 (d : Nat) (p0 x1 : Int) (m : jM) (Q : Int → jM → Prop)
    (h : (x1 < 256 → jK d zJ6_bitCount_0f7a4 [jI x1] m (fun v1 m1 => ((0 : Int) ≤ x1 ∧ (x1 : Int) < 256) ∧ ((m1 (p0 + 6) x1) = 0 → aX4_share_38 d p0 (w32 (x1 + 1)) m1 Q) ∧ (¬ (m1 (p0 + 6) x1) = 0 → (v1 < (m1 p0 1) → ((0 : Int) ≤ v1 ∧ (v1 : Int) < 8) ∧ jK d zX4_shareFrom [jO 4 p0, jI x1, jI (m1 (p0 + 1) v1)] m1 (fun v2 m2 => aX4_share_38 d p0 (w32 (x1 + 1)) m2 Q)) ∧ (¬ v1 < (m1 p0 1) → aX4_share_38 d p0 (w32 (x1 + 1)) m1 Q)))) ∧ (¬ x1 < 256 → Q 0 m)) :
    aX4_share_38 d p0 x1 m Q := jWp_snd [(38, [true, true, false])] jcX4_share 25 rfl h
def aX4_shareFrom_2 (d : Nat) (p0 x1 x2 x3 : Int) (m : jM) (Q : Int → jM → Prop) : Prop := jA (d + 1) zX4_shareFrom 2 [some (jO 4 p0), some (jI x1), some (jI x2), some (jI x3), none] [] m Q
set_option maxRecDepth 100000 in
theorem gX4_shareFrom (d : Nat) (p0 x1 x2 : Int) (m : jM) (Q : Int → jM → Prop)
    (h : aX4_shareFrom_2 d p0 x1 x2 0 m Q) :
    jK (d + 1) zX4_shareFrom [jO 4 p0, jI x1, jI x2] m Q := jWp_sn0 [(2, [true, true, true, true, false])] jcX4_shareFrom 3 rfl h
set_option maxRecDepth 100000 in
theorem gX4_shareFrom_2 (d : Nat) (p0 x1 x2 x3 : Int) (m : jM) (Q : Int → jM → Prop)
    (h : (x3 < 8 → jK d zX4_leads [jO 4 p0, jI x1, jI x3, jI x2] m (fun v1 m1 => (v1 = 0 → aX4_shareFrom_2 d p0 x1 x2 (w32 (x3 + 1)) m1 Q) ∧ (¬ v1 = 0 → ((0 : Int) ≤ (iOr x1 (iShl 1 x3)) ∧ ((iOr x1 (iShl 1 x3)) : Int) < 256) ∧ ((0 : Int) ≤ x1 ∧ (x1 : Int) < 256) ∧ ((0 : Int) ≤ (iOr x1 (iShl 1 x3)) ∧ ((iOr x1 (iShl 1 x3)) : Int) < 256) ∧ ((0 : Int) ≤ (w32 ((w32 (x3 * 8)) + x2)) ∧ ((w32 ((w32 (x3 * 8)) + x2)) : Int) < 64) ∧ ((0 : Int) ≤ x1 ∧ (x1 : Int) < 256) ∧ ((0 : Int) ≤ (iOr x1 (iShl 1 x3)) ∧ ((iOr x1 (iShl 1 x3)) : Int) < 256) ∧ ((0 : Int) ≤ (w32 ((w32 (x3 * 8)) + x2)) ∧ ((w32 ((w32 (x3 * 8)) + x2)) : Int) < 64) ∧ aX4_shareFrom_2 d p0 x1 x2 (w32 (x3 + 1)) (jUp (jUp m1 (p0 + 6) (iOr x1 (iShl 1 x3)) (w32 ((m1 (p0 + 6) (iOr x1 (iShl 1 x3))) + (m1 (p0 + 6) x1)))) (p0 + 7) (w32 ((w32 (x3 * 8)) + x2)) (w32 (((jUp m1 (p0 + 6) (iOr x1 (iShl 1 x3)) (w32 ((m1 (p0 + 6) (iOr x1 (iShl 1 x3))) + (m1 (p0 + 6) x1)))) (p0 + 7) (w32 ((w32 (x3 * 8)) + x2))) + (w32 (((jUp m1 (p0 + 6) (iOr x1 (iShl 1 x3)) (w32 ((m1 (p0 + 6) (iOr x1 (iShl 1 x3))) + (m1 (p0 + 6) x1)))) (p0 + 6) x1) * ((jUp m1 (p0 + 6) (iOr x1 (iShl 1 x3)) (w32 ((m1 (p0 + 6) (iOr x1 (iShl 1 x3))) + (m1 (p0 + 6) x1)))) (p0 + 5) (iOr x1 (iShl 1 x3)))))))) Q))) ∧ (¬ x3 < 8 → Q 0 m)) :
    aX4_shareFrom_2 d p0 x1 x2 x3 m Q := jWp_snd [(2, [true, true, true, true, false])] jcX4_shareFrom 49 rfl h
def aX4_follows_23 (d : Nat) (p0 p1 n2 y2 x3 x4 : Int) (m : jM) (Q : Int → jM → Prop) : Prop := jA (d + 1) zX4_follows 23 [some (jO 4 p0), some (jO 7 p1), some (jY 0 n2 y2), some (jI x3), some (jI x4), none, none, none, none] [] m Q
set_option maxRecDepth 100000 in
theorem gX4_follows (d : Nat) (p0 p1 n2 y2 : Int) (m : jM) (Q : Int → jM → Prop)
    (h : jK d zJ7_fill_53178 [jY 0 n2 y2, jI (-1)] m (fun v1 m1 => ((m1 p1 1) = (m1 p0 1) → aX4_follows_23 d p0 p1 n2 y2 0 0 m1 Q) ∧ (¬ (m1 p1 1) = (m1 p0 1) → Q 0 m1))) :
    jK (d + 1) zX4_follows [jO 4 p0, jO 7 p1, jY 0 n2 y2] m Q := jWp_sn0 [(23, [true, true, true, true, true, false, false, false, false])] jcX4_follows 13 rfl h
set_option maxRecDepth 100000 in
theorem gX4_follows_23 (d : Nat) (p0 p1 n2 y2 x3 x4 : Int) (m : jM) (Q : Int → jM → Prop)
    (h : (x4 < (m p0 1) → ((0 : Int) ≤ x4 ∧ (x4 : Int) < 40) ∧ ((m (p1 + 1) x4) < 0 → Q 0 m) ∧ (¬ (m (p1 + 1) x4) < 0 → ((m (p1 + 1) x4) < 8 → ((iAnd x3 (iShl 1 (w32 (m (p1 + 1) x4)))) = 0 → ((0 : Int) ≤ x4 ∧ (x4 : Int) < 8) ∧ jK d zX4_isOpen [jO 4 p0, jI (w32 (m (p1 + 1) x4)), jI (m (p0 + 1) x4)] m (fun v1 m1 => (v1 = 0 → Q 0 m1) ∧ (¬ v1 = 0 → ((0 : Int) ≤ x4 ∧ (x4 : Int) < 8) ∧ ((0 : Int) ≤ (m1 (p0 + 1) x4) ∧ ((m1 (p0 + 1) x4) : Int) < n2) ∧ aX4_follows_23 d p0 p1 n2 y2 (iOr x3 (iShl 1 (w32 (m (p1 + 1) x4)))) (w32 (x4 + 1)) (jUp m1 y2 (m1 (p0 + 1) x4) (w32 (m (p1 + 1) x4))) Q))) ∧ (¬ (iAnd x3 (iShl 1 (w32 (m (p1 + 1) x4)))) = 0 → Q 0 m)) ∧ (¬ (m (p1 + 1) x4) < 8 → Q 0 m))) ∧ (¬ x4 < (m p0 1) → Q 1 m)) :
    aX4_follows_23 d p0 p1 n2 y2 x3 x4 m Q := jWp_snd [(23, [true, true, true, true, true, false, false, false, false])] jcX4_follows 48 rfl h
def aX4_sumOf_5 (d : Nat) (p0 n1 y1 x2 x4 : Int) (m : jM) (Q : Int → jM → Prop) : Prop := jA (d + 1) zX4_sumOf 5 [some (jO 4 p0), some (jY 0 n1 y1), some (jL x2), none, some (jI x4), none] [] m Q
set_option maxRecDepth 100000 in
theorem gX4_sumOf (d : Nat) (p0 n1 y1 : Int) (m : jM) (Q : Int → jM → Prop)
    (h : aX4_sumOf_5 d p0 n1 y1 0 0 m Q) :
    jK (d + 1) zX4_sumOf [jO 4 p0, jY 0 n1 y1] m Q := jWp_sn0 [(5, [true, true, true, false, true, false])] jcX4_sumOf 5 rfl h
set_option maxRecDepth 100000 in
theorem gX4_sumOf_5 (d : Nat) (p0 n1 y1 x2 x4 : Int) (m : jM) (Q : Int → jM → Prop)
    (h : (x4 < (m p0 1) → ((0 : Int) ≤ x4 ∧ (x4 : Int) < 8) ∧ ((0 : Int) ≤ (m (p0 + 1) x4) ∧ ((m (p0 + 1) x4) : Int) < n1) ∧ ((0 : Int) ≤ (w32 ((w32 ((m y1 (m (p0 + 1) x4)) * 8)) + (m (p0 + 1) x4))) ∧ ((w32 ((w32 ((m y1 (m (p0 + 1) x4)) * 8)) + (m (p0 + 1) x4))) : Int) < 64) ∧ aX4_sumOf_5 d p0 n1 y1 (w64 (x2 + (m (p0 + 2) (w32 ((w32 ((m y1 (m (p0 + 1) x4)) * 8)) + (m (p0 + 1) x4)))))) (w32 (x4 + 1)) m Q) ∧ (¬ x4 < (m p0 1) → Q x2 m)) :
    aX4_sumOf_5 d p0 n1 y1 x2 x4 m Q := jWp_snd [(5, [true, true, true, false, true, false])] jcX4_sumOf 25 rfl h
def aX4_sharedOf_4 (d : Nat) (p0 n1 y1 x2 x3 : Int) (m : jM) (Q : Int → jM → Prop) : Prop := jA (d + 1) zX4_sharedOf 4 [some (jO 4 p0), some (jY 0 n1 y1), some (jI x2), some (jI x3), none] [] m Q
set_option maxRecDepth 100000 in
theorem gX4_sharedOf (d : Nat) (p0 n1 y1 : Int) (m : jM) (Q : Int → jM → Prop)
    (h : aX4_sharedOf_4 d p0 n1 y1 0 0 m Q) :
    jK (d + 1) zX4_sharedOf [jO 4 p0, jY 0 n1 y1] m Q := jWp_sn0 [(4, [true, true, true, true, false])] jcX4_sharedOf 5 rfl h
set_option maxRecDepth 100000 in
theorem gX4_sharedOf_4 (d : Nat) (p0 n1 y1 x2 x3 : Int) (m : jM) (Q : Int → jM → Prop)
    (h : (x3 < (m p0 1) → ((0 : Int) ≤ x3 ∧ (x3 : Int) < 8) ∧ ((0 : Int) ≤ (m (p0 + 1) x3) ∧ ((m (p0 + 1) x3) : Int) < n1) ∧ ((0 : Int) ≤ (w32 ((w32 ((m y1 (m (p0 + 1) x3)) * 8)) + (m (p0 + 1) x3))) ∧ ((w32 ((w32 ((m y1 (m (p0 + 1) x3)) * 8)) + (m (p0 + 1) x3))) : Int) < 64) ∧ (0 < (m (p0 + 7) (w32 ((w32 ((m y1 (m (p0 + 1) x3)) * 8)) + (m (p0 + 1) x3)))) → aX4_sharedOf_4 d p0 n1 y1 (w32 (x2 + 1)) (w32 (x3 + 1)) m Q) ∧ (¬ 0 < (m (p0 + 7) (w32 ((w32 ((m y1 (m (p0 + 1) x3)) * 8)) + (m (p0 + 1) x3)))) → aX4_sharedOf_4 d p0 n1 y1 (w32 (x2 + 0)) (w32 (x3 + 1)) m Q)) ∧ (¬ x3 < (m p0 1) → Q x2 m)) :
    aX4_sharedOf_4 d p0 n1 y1 x2 x3 m Q := jWp_snd [(4, [true, true, true, true, false])] jcX4_sharedOf 28 rfl h
def aX5_init_4 (d : Nat) (p0 : Int) (m : jM) (Q : Int → jM → Prop) : Prop := jA (d + 1) zX5_init 4 [some (jO 5 p0)] [] m Q
def aX5_init_9 (d : Nat) (p0 : Int) (m : jM) (Q : Int → jM → Prop) : Prop := jA (d + 1) zX5_init 9 [some (jO 5 p0)] [] m Q
def aX5_init_18 (d : Nat) (p0 : Int) (m : jM) (Q : Int → jM → Prop) : Prop := jA (d + 1) zX5_init 18 [some (jO 5 p0)] [] m Q
def aX5_init_27 (d : Nat) (p0 : Int) (m : jM) (Q : Int → jM → Prop) : Prop := jA (d + 1) zX5_init 27 [some (jO 5 p0)] [] m Q
def aX5_init_35 (d : Nat) (p0 : Int) (m : jM) (Q : Int → jM → Prop) : Prop := jA (d + 1) zX5_init 35 [some (jO 5 p0)] [] m Q
def aX5_init_43 (d : Nat) (p0 : Int) (m : jM) (Q : Int → jM → Prop) : Prop := jA (d + 1) zX5_init 43 [some (jO 5 p0)] [] m Q
def aX5_init_51 (d : Nat) (m : jM) (Q : Int → jM → Prop) : Prop := jA (d + 1) zX5_init 51 [none] [] m Q
set_option maxRecDepth 100000 in
theorem gX5_init (d : Nat) (p0 : Int) (m : jM) (Q : Int → jM → Prop)
    (h : aX5_init_4 d p0 m Q) :
    jK (d + 1) zX5_init [jO 5 p0] m Q := jWp_sn0 [(4, [true]), (9, [true]), (18, [true]), (27, [true]), (35, [true]), (43, [true]), (51, [false])] jcX5_init 3 rfl h
set_option maxRecDepth 100000 in
theorem gX5_init_4 (d : Nat) (p0 : Int) (m : jM) (Q : Int → jM → Prop)
    (h : aX5_init_9 d p0 (jUp m p0 0 0) Q) :
    aX5_init_4 d p0 m Q := jWp_snd [(4, [true]), (9, [true]), (18, [true]), (27, [true]), (35, [true]), (43, [true]), (51, [false])] jcX5_init 4 rfl h
set_option maxRecDepth 100000 in
theorem gX5_init_9 (d : Nat) (p0 : Int) (m : jM) (Q : Int → jM → Prop)
    (h : (m (-3) 0 < m (-2) (-7) ∧ jKd (m (-3) 0) = 21 ∧ jLn (m (-3) 0) = 384) ∧ (m (-3) 0) = (p0 + 1) ∧ aX5_init_18 d p0 (jUp (jNw m) p0 1 (m (-3) 0)) Q) :
    aX5_init_9 d p0 m Q := jWp_snd [(4, [true]), (9, [true]), (18, [true]), (27, [true]), (35, [true]), (43, [true]), (51, [false])] jcX5_init 5 rfl h
set_option maxRecDepth 100000 in
theorem gX5_init_18 (d : Nat) (p0 : Int) (m : jM) (Q : Int → jM → Prop)
    (h : (m (-3) 0 < m (-2) (-7) ∧ jKd (m (-3) 0) = 21 ∧ jLn (m (-3) 0) = 1024) ∧ (m (-3) 0) = (p0 + 2) ∧ aX5_init_27 d p0 (jUp (jNw m) p0 2 (m (-3) 0)) Q) :
    aX5_init_18 d p0 m Q := jWp_snd [(4, [true]), (9, [true]), (18, [true]), (27, [true]), (35, [true]), (43, [true]), (51, [false])] jcX5_init 5 rfl h
set_option maxRecDepth 100000 in
theorem gX5_init_27 (d : Nat) (p0 : Int) (m : jM) (Q : Int → jM → Prop)
    (h : (m (-3) 0 < m (-2) (-7) ∧ jKd (m (-3) 0) = 21 ∧ jLn (m (-3) 0) = 8) ∧ (m (-3) 0) = (p0 + 3) ∧ aX5_init_35 d p0 (jUp (jNw m) p0 3 (m (-3) 0)) Q) :
    aX5_init_27 d p0 m Q := jWp_snd [(4, [true]), (9, [true]), (18, [true]), (27, [true]), (35, [true]), (43, [true]), (51, [false])] jcX5_init 5 rfl h
set_option maxRecDepth 100000 in
theorem gX5_init_35 (d : Nat) (p0 : Int) (m : jM) (Q : Int → jM → Prop)
    (h : (m (-3) 0 < m (-2) (-7) ∧ jKd (m (-3) 0) = 21 ∧ jLn (m (-3) 0) = 8) ∧ (m (-3) 0) = (p0 + 4) ∧ aX5_init_43 d p0 (jUp (jNw m) p0 4 (m (-3) 0)) Q) :
    aX5_init_35 d p0 m Q := jWp_snd [(4, [true]), (9, [true]), (18, [true]), (27, [true]), (35, [true]), (43, [true]), (51, [false])] jcX5_init 5 rfl h
set_option maxRecDepth 100000 in
theorem gX5_init_43 (d : Nat) (p0 : Int) (m : jM) (Q : Int → jM → Prop)
    (h : (m (-3) 0 < m (-2) (-7) ∧ jKd (m (-3) 0) = 20 ∧ jLn (m (-3) 0) = 8) ∧ (m (-3) 0) = (p0 + 5) ∧ aX5_init_51 d  (jUp (jNw m) p0 5 (m (-3) 0)) Q) :
    aX5_init_43 d p0 m Q := jWp_snd [(4, [true]), (9, [true]), (18, [true]), (27, [true]), (35, [true]), (43, [true]), (51, [false])] jcX5_init 5 rfl h
set_option maxRecDepth 100000 in
theorem gX5_init_51 (d : Nat) (m : jM) (Q : Int → jM → Prop)
    (h : m (-3) 0 = m (-2) (-7) ∧ Q 0 m) :
    aX5_init_51 d  m Q := jWp_snd [(4, [true]), (9, [true]), (18, [true]), (27, [true]), (35, [true]), (43, [true]), (51, [false])] jcX5_init 2 rfl h
def aX5_make_10 (d : Nat) (x3 : Int) (m : jM) (Q : Int → jM → Prop) : Prop := jA (d + 1) zX5_make 10 [some (jO 5 75), some (jO 4 54), some (jO 2 70), some (jI x3), none, none, none] [] m Q
def aX5_make_44 (d : Nat) (x3 x5 : Int) (m : jM) (Q : Int → jM → Prop) : Prop := jA (d + 1) zX5_make 44 [some (jO 5 75), some (jO 4 54), some (jO 2 70), some (jL x3), none, some (jI x5), none] [] m Q
set_option maxRecDepth 100000 in
theorem gX5_make (d : Nat) (m : jM) (Q : Int → jM → Prop)
    (h : jK d zJ7_fill_d0a16 [jY 1 8 78, jL 0] m (fun v1 m1 => aX5_make_10 d 0 m1 Q)) :
    jK (d + 1) zX5_make [jO 5 75, jO 4 54, jO 2 70] m Q := jWp_sn0 [(10, [true, true, true, true, false, false, false]), (44, [true, true, true, true, false, true, false])] jcX5_make 7 rfl h
set_option maxRecDepth 100000 in
theorem gX5_make_10 (d : Nat) (x3 : Int) (m : jM) (Q : Int → jM → Prop)
    (h : (x3 < 8 → jK d zX5_firstPay [jO 5 75, jO 4 54, jI x3] m (fun v1 m1 => ((0 : Int) ≤ x3 ∧ (x3 : Int) < 8) ∧ aX5_make_10 d (w32 (x3 + 1)) (jUp m1 79 x3 v1) Q)) ∧ (¬ x3 < 8 → aX5_make_44 d 0 0 (jUp m 75 0 0) Q)) :
    aX5_make_10 d x3 m Q := jWp_snd [(10, [true, true, true, true, false, false, false]), (44, [true, true, true, true, false, true, false])] jcX5_make 14 rfl h
set_option maxRecDepth 100000 in
theorem gX5_make_44 (d : Nat) (x3 x5 : Int) (m : jM) (Q : Int → jM → Prop)
    (h : (x5 < 64 → (x3 = (-1) → Q 0 m) ∧ (¬ x3 = (-1) → jK d zX5_findTight [jO 5 75, jO 4 54] m (fun v1 m1 => jK d zX2_find [jO 2 70, jY 0 8 80, jI (m1 54 0)] m1 (fun v2 m2 => jK d zX5_leastSlack [jO 5 75, jO 4 54, jI (m2 70 1), jI (iXor (m2 70 2) (-1))] m2 (fun v3 m3 => jK d zX5_keep [jO 5 75, jI x5, jI (iAnd (m3 54 0) (iXor (m3 70 1) (-1))), jO 2 70] m3 (fun v4 m4 => ((0 : Int) ≤ (w32 ((w32 (x5 * 6)) + 4)) ∧ ((w32 ((w32 (x5 * 6)) + 4)) : Int) < 384) ∧ ((0 : Int) ≤ (w32 ((w32 (x5 * 6)) + 5)) ∧ ((w32 ((w32 (x5 * 6)) + 5)) : Int) < 384) ∧ (v3 = (-1) → aX5_make_44 d v3 (w32 (x5 + 1)) (jUp (jUp (jUp m4 76 (w32 ((w32 (x5 * 6)) + 4)) v3) 76 (w32 ((w32 (x5 * 6)) + 5)) v1) 75 0 (w32 (((jUp (jUp m4 76 (w32 ((w32 (x5 * 6)) + 4)) v3) 76 (w32 ((w32 (x5 * 6)) + 5)) v1) 75 0) + 1))) Q) ∧ (¬ v3 = (-1) → jK d zX5_raise [jO 5 75, jO 2 70, jL v3] (jUp (jUp (jUp m4 76 (w32 ((w32 (x5 * 6)) + 4)) v3) 76 (w32 ((w32 (x5 * 6)) + 5)) v1) 75 0 (w32 (((jUp (jUp m4 76 (w32 ((w32 (x5 * 6)) + 4)) v3) 76 (w32 ((w32 (x5 * 6)) + 5)) v1) 75 0) + 1))) (fun v5 m5 => aX5_make_44 d v3 (w32 (x5 + 1)) m5 Q)))))))) ∧ (¬ x5 < 64 → Q 0 m)) :
    aX5_make_44 d x3 x5 m Q := jWp_snd [(10, [true, true, true, true, false, false, false]), (44, [true, true, true, true, false, true, false])] jcX5_make 72 rfl h
def aX5_firstPay_7 (d : Nat) (x2 x3 x5 : Int) (m : jM) (Q : Int → jM → Prop) : Prop := jA (d + 1) zX5_firstPay 7 [none, some (jO 4 54), some (jI x2), some (jL x3), none, some (jI x5), none, none] [] m Q
set_option maxRecDepth 100000 in
theorem gX5_firstPay (d : Nat) (x2 : Int) (m : jM) (Q : Int → jM → Prop)
    (h : aX5_firstPay_7 d x2 (-1) 0 m Q) :
    jK (d + 1) zX5_firstPay [jO 5 75, jO 4 54, jI x2] m Q := jWp_sn0 [(7, [false, true, true, true, false, true, false, false])] jcX5_firstPay 5 rfl h
set_option maxRecDepth 100000 in
theorem gX5_firstPay_7 (d : Nat) (x2 x3 x5 : Int) (m : jM) (Q : Int → jM → Prop)
    (h : (x5 < 8 → jK d zX4_isOpen [jO 4 54, jI x5, jI x2] m (fun v1 m1 => (v1 = 0 → aX5_firstPay_7 d x2 x3 (w32 (x5 + 1)) m1 Q) ∧ (¬ v1 = 0 → ((0 : Int) ≤ (w32 ((w32 (x5 * 8)) + x2)) ∧ ((w32 ((w32 (x5 * 8)) + x2)) : Int) < 64) ∧ (x3 = (-1) → aX5_firstPay_7 d x2 (m1 56 (w32 ((w32 (x5 * 8)) + x2))) (w32 (x5 + 1)) m1 Q) ∧ (¬ x3 = (-1) → jK d zJ9_min_f86c9 [jL x3, jL (m1 56 (w32 ((w32 (x5 * 8)) + x2)))] m1 (fun v2 m2 => aX5_firstPay_7 d x2 v2 (w32 (x5 + 1)) m2 Q))))) ∧ (¬ x5 < 8 → (x3 = (-1) → Q 0 m) ∧ (¬ x3 = (-1) → Q x3 m))) :
    aX5_firstPay_7 d x2 x3 x5 m Q := jWp_snd [(7, [false, true, true, true, false, true, false, false])] jcX5_firstPay 27 rfl h
set_option maxRecDepth 100000 in
theorem gX5_slack (d : Nat) (x2 x3 : Int) (m : jM) (Q : Int → jM → Prop)
    (h : ((0 : Int) ≤ (w32 ((w32 (x2 * 8)) + x3)) ∧ ((w32 ((w32 (x2 * 8)) + x3)) : Int) < 64) ∧ ((0 : Int) ≤ x2 ∧ (x2 : Int) < 8) ∧ ((0 : Int) ≤ x3 ∧ (x3 : Int) < 8) ∧ Q (w64 ((w64 ((m 56 (w32 ((w32 (x2 * 8)) + x3))) + (m 78 x2))) - (m 79 x3))) m) :
    jK (d + 1) zX5_slack [jO 5 75, jO 4 54, jI x2, jI x3] m Q := jWp_sn0 [] jcX5_slack 20 rfl h
def aX5_findTight_12 (d : Nat) (x2 x3 : Int) (m : jM) (Q : Int → jM → Prop) : Prop := jA (d + 1) zX5_findTight 12 [some (jO 5 75), some (jO 4 54), some (jI x2), some (jI x3), none, none] [] m Q
set_option maxRecDepth 100000 in
theorem gX5_findTight (d : Nat) (m : jM) (Q : Int → jM → Prop)
    (h : jK d zJ7_fill_53178 [jY 0 8 80, jI 0] m (fun v1 m1 => aX5_findTight_12 d 0 0 m1 Q)) :
    jK (d + 1) zX5_findTight [jO 5 75, jO 4 54] m Q := jWp_sn0 [(12, [true, true, true, true, false, false])] jcX5_findTight 9 rfl h
set_option maxRecDepth 100000 in
theorem gX5_findTight_12 (d : Nat) (x2 x3 : Int) (m : jM) (Q : Int → jM → Prop)
    (h : (x3 < 64 → (8 : Int) ≠ 0 ∧ (8 : Int) ≠ 0 ∧ jK d zX4_isOpen [jO 4 54, jI (iDiv x3 8), jI (iRem x3 8)] m (fun v1 m1 => (v1 = 0 → aX5_findTight_12 d x2 (w32 (x3 + 1)) m1 Q) ∧ (¬ v1 = 0 → jK d zX5_slack [jO 5 75, jO 4 54, jI (iDiv x3 8), jI (iRem x3 8)] m1 (fun v2 m2 => (v2 = 0 → ((0 : Int) ≤ (iRem x3 8) ∧ ((iRem x3 8) : Int) < 8) ∧ ((0 : Int) ≤ (iRem x3 8) ∧ ((iRem x3 8) : Int) < 8) ∧ aX5_findTight_12 d (w32 (x2 + 1)) (w32 (x3 + 1)) (jUp m2 80 (iRem x3 8) (iOr (m2 80 (iRem x3 8)) (iShl 1 (iDiv x3 8)))) Q) ∧ (¬ v2 = 0 → aX5_findTight_12 d x2 (w32 (x3 + 1)) m2 Q))))) ∧ (¬ x3 < 64 → Q x2 m)) :
    aX5_findTight_12 d x2 x3 m Q := jWp_snd [(12, [true, true, true, true, false, false])] jcX5_findTight 37 rfl h
def aX5_leastSlack_8 (d : Nat) (x2 x3 x4 x6 : Int) (m : jM) (Q : Int → jM → Prop) : Prop := jA (d + 1) zX5_leastSlack 8 [some (jO 5 75), some (jO 4 54), some (jI x2), some (jI x3), some (jL x4), none, some (jI x6), none, none, none, none, none] [] m Q
set_option maxRecDepth 100000 in
theorem gX5_leastSlack (d : Nat) (x2 x3 : Int) (m : jM) (Q : Int → jM → Prop)
    (h : aX5_leastSlack_8 d x2 x3 (-1) 0 m Q) :
    jK (d + 1) zX5_leastSlack [jO 5 75, jO 4 54, jI x2, jI x3] m Q := jWp_sn0 [(8, [true, true, true, true, true, false, true, false, false, false, false, false])] jcX5_leastSlack 5 rfl h
set_option maxRecDepth 100000 in
theorem gX5_leastSlack_8 (d : Nat) (x2 x3 x4 x6 : Int) (m : jM) (Q : Int → jM → Prop)
    (h : (x6 < 64 → (8 : Int) ≠ 0 ∧ (8 : Int) ≠ 0 ∧ ((iAnd (iAnd (iShr x2 (iRem x6 8)) (iShr x3 (iDiv x6 8))) 1) = 1 → ((1 : Int) = 0 → aX5_leastSlack_8 d x2 x3 x4 (w32 (x6 + 1)) m Q) ∧ (¬ (1 : Int) = 0 → jK d zX4_isOpen [jO 4 54, jI (iDiv x6 8), jI (iRem x6 8)] m (fun v1 m1 => (v1 = 0 → aX5_leastSlack_8 d x2 x3 x4 (w32 (x6 + 1)) m1 Q) ∧ (¬ v1 = 0 → jK d zX5_slack [jO 5 75, jO 4 54, jI (iDiv x6 8), jI (iRem x6 8)] m1 (fun v2 m2 => (x4 = (-1) → aX5_leastSlack_8 d x2 x3 v2 (w32 (x6 + 1)) m2 Q) ∧ (¬ x4 = (-1) → jK d zJ9_min_f86c9 [jL x4, jL v2] m2 (fun v3 m3 => aX5_leastSlack_8 d x2 x3 v3 (w32 (x6 + 1)) m3 Q))))))) ∧ (¬ (iAnd (iAnd (iShr x2 (iRem x6 8)) (iShr x3 (iDiv x6 8))) 1) = 1 → ((0 : Int) = 0 → aX5_leastSlack_8 d x2 x3 x4 (w32 (x6 + 1)) m Q) ∧ (¬ (0 : Int) = 0 → jK d zX4_isOpen [jO 4 54, jI (iDiv x6 8), jI (iRem x6 8)] m (fun v4 m4 => (v4 = 0 → aX5_leastSlack_8 d x2 x3 x4 (w32 (x6 + 1)) m4 Q) ∧ (¬ v4 = 0 → jK d zX5_slack [jO 5 75, jO 4 54, jI (iDiv x6 8), jI (iRem x6 8)] m4 (fun v5 m5 => (x4 = (-1) → aX5_leastSlack_8 d x2 x3 v5 (w32 (x6 + 1)) m5 Q) ∧ (¬ x4 = (-1) → jK d zJ9_min_f86c9 [jL x4, jL v5] m5 (fun v6 m6 => aX5_leastSlack_8 d x2 x3 v6 (w32 (x6 + 1)) m6 Q)))))))) ∧ (¬ x6 < 64 → Q x4 m)) :
    aX5_leastSlack_8 d x2 x3 x4 x6 m Q := jWp_snd [(8, [true, true, true, true, true, false, true, false, false, false, false, false])] jcX5_leastSlack 48 rfl h
set_option maxRecDepth 100000 in
theorem gX5_keep (d : Nat) (x1 x2 : Int) (m : jM) (Q : Int → jM → Prop)
    (h : ((0 : Int) ≤ (w32 (x1 * 6)) ∧ ((w32 (x1 * 6)) : Int) < 384) ∧ ((0 : Int) ≤ (w32 ((w32 (x1 * 6)) + 1)) ∧ ((w32 ((w32 (x1 * 6)) + 1)) : Int) < 384) ∧ ((0 : Int) ≤ (w32 ((w32 (x1 * 6)) + 2)) ∧ ((w32 ((w32 (x1 * 6)) + 2)) : Int) < 384) ∧ ((0 : Int) ≤ (w32 ((w32 (x1 * 6)) + 3)) ∧ ((w32 ((w32 (x1 * 6)) + 3)) : Int) < 384) ∧ ((0 : Int) ≤ 0 ∧ (0 : Int) ≤ (w32 ((w32 (x1 * 2)) * 8)) ∧ (0 : Int) ≤ 8 ∧ (0 : Int) + 8 ≤ 8 ∧ ((w32 ((w32 (x1 * 2)) * 8)) : Int) + 8 ≤ 1024) ∧ ((0 : Int) ≤ 0 ∧ (0 : Int) ≤ (w32 ((w32 ((w32 (x1 * 2)) + 1)) * 8)) ∧ (0 : Int) ≤ 8 ∧ (0 : Int) + 8 ≤ 8 ∧ ((w32 ((w32 ((w32 (x1 * 2)) + 1)) * 8)) : Int) + 8 ≤ 1024) ∧ Q 0 (jCp (jCp (jUp (jUp (jUp (jUp m 76 (w32 (x1 * 6)) (m 70 0)) 76 (w32 ((w32 (x1 * 6)) + 1)) ((jUp m 76 (w32 (x1 * 6)) (m 70 0)) 70 1)) 76 (w32 ((w32 (x1 * 6)) + 2)) ((jUp (jUp m 76 (w32 (x1 * 6)) (m 70 0)) 76 (w32 ((w32 (x1 * 6)) + 1)) ((jUp m 76 (w32 (x1 * 6)) (m 70 0)) 70 1)) 70 2)) 76 (w32 ((w32 (x1 * 6)) + 3)) (iOr ((jUp (jUp (jUp m 76 (w32 (x1 * 6)) (m 70 0)) 76 (w32 ((w32 (x1 * 6)) + 1)) ((jUp m 76 (w32 (x1 * 6)) (m 70 0)) 70 1)) 76 (w32 ((w32 (x1 * 6)) + 2)) ((jUp (jUp m 76 (w32 (x1 * 6)) (m 70 0)) 76 (w32 ((w32 (x1 * 6)) + 1)) ((jUp m 76 (w32 (x1 * 6)) (m 70 0)) 70 1)) 70 2)) 70 2) (iShl x2 8))) 78 0 77 (w32 ((w32 (x1 * 2)) * 8)) 8) 79 0 77 (w32 ((w32 ((w32 (x1 * 2)) + 1)) * 8)) 8)) :
    jK (d + 1) zX5_keep [jO 5 75, jI x1, jI x2, jO 2 70] m Q := jWp_sn0 [] jcX5_keep 74 rfl h
def aX5_raise_3 (d : Nat) (x2 x4 : Int) (m : jM) (Q : Int → jM → Prop) : Prop := jA (d + 1) zX5_raise 3 [some (jO 5 75), some (jO 2 70), some (jL x2), none, some (jI x4)] [] m Q
set_option maxRecDepth 100000 in
theorem gX5_raise (d : Nat) (x2 : Int) (m : jM) (Q : Int → jM → Prop)
    (h : aX5_raise_3 d x2 0 m Q) :
    jK (d + 1) zX5_raise [jO 5 75, jO 2 70, jL x2] m Q := jWp_sn0 [(3, [true, true, true, false, true])] jcX5_raise 3 rfl h
set_option maxRecDepth 100000 in
theorem gX5_raise_3 (d : Nat) (x2 x4 : Int) (m : jM) (Q : Int → jM → Prop)
    (h : (x4 < 8 → ((0 : Int) ≤ x4 ∧ (x4 : Int) < 8) ∧ ((0 : Int) ≤ x4 ∧ (x4 : Int) < 8) ∧ ((0 : Int) ≤ x4 ∧ (x4 : Int) < 8) ∧ ((0 : Int) ≤ x4 ∧ (x4 : Int) < 8) ∧ aX5_raise_3 d x2 (w32 (x4 + 1)) (jUp (jUp m 78 x4 (w64 ((m 78 x4) + (w64 ((iAnd (iShr (m 70 2) x4) 1) * x2))))) 79 x4 (w64 (((jUp m 78 x4 (w64 ((m 78 x4) + (w64 ((iAnd (iShr (m 70 2) x4) 1) * x2))))) 79 x4) + (w64 ((iAnd (iShr ((jUp m 78 x4 (w64 ((m 78 x4) + (w64 ((iAnd (iShr (m 70 2) x4) 1) * x2))))) 70 1) x4) 1) * x2))))) Q) ∧ (¬ x4 < 8 → Q 0 m)) :
    aX5_raise_3 d x2 x4 m Q := jWp_snd [(3, [true, true, true, false, true])] jcX5_raise 38 rfl h
def aX6_init_4 (d : Nat) (p0 : Int) (m : jM) (Q : Int → jM → Prop) : Prop := jA (d + 1) zX6_init 4 [some (jO 6 p0)] [] m Q
def aX6_init_9 (d : Nat) (p0 : Int) (m : jM) (Q : Int → jM → Prop) : Prop := jA (d + 1) zX6_init 9 [some (jO 6 p0)] [] m Q
def aX6_init_14 (d : Nat) (p0 : Int) (m : jM) (Q : Int → jM → Prop) : Prop := jA (d + 1) zX6_init 14 [some (jO 6 p0)] [] m Q
def aX6_init_22 (d : Nat) (p0 : Int) (m : jM) (Q : Int → jM → Prop) : Prop := jA (d + 1) zX6_init 22 [some (jO 6 p0)] [] m Q
def aX6_init_30 (d : Nat) (p0 : Int) (m : jM) (Q : Int → jM → Prop) : Prop := jA (d + 1) zX6_init 30 [some (jO 6 p0)] [] m Q
def aX6_init_38 (d : Nat) (m : jM) (Q : Int → jM → Prop) : Prop := jA (d + 1) zX6_init 38 [none] [] m Q
set_option maxRecDepth 100000 in
theorem gX6_init (d : Nat) (p0 : Int) (m : jM) (Q : Int → jM → Prop)
    (h : aX6_init_4 d p0 m Q) :
    jK (d + 1) zX6_init [jO 6 p0] m Q := jWp_sn0 [(4, [true]), (9, [true]), (14, [true]), (22, [true]), (30, [true]), (38, [false])] jcX6_init 3 rfl h
set_option maxRecDepth 100000 in
theorem gX6_init_4 (d : Nat) (p0 : Int) (m : jM) (Q : Int → jM → Prop)
    (h : aX6_init_9 d p0 (jUp m p0 0 0) Q) :
    aX6_init_4 d p0 m Q := jWp_snd [(4, [true]), (9, [true]), (14, [true]), (22, [true]), (30, [true]), (38, [false])] jcX6_init 4 rfl h
set_option maxRecDepth 100000 in
theorem gX6_init_9 (d : Nat) (p0 : Int) (m : jM) (Q : Int → jM → Prop)
    (h : aX6_init_14 d p0 (jUp m p0 1 0) Q) :
    aX6_init_9 d p0 m Q := jWp_snd [(4, [true]), (9, [true]), (14, [true]), (22, [true]), (30, [true]), (38, [false])] jcX6_init 4 rfl h
set_option maxRecDepth 100000 in
theorem gX6_init_14 (d : Nat) (p0 : Int) (m : jM) (Q : Int → jM → Prop)
    (h : (m (-3) 0 < m (-2) (-7) ∧ jKd (m (-3) 0) = 20 ∧ jLn (m (-3) 0) = 40) ∧ (m (-3) 0) = (p0 + 1) ∧ aX6_init_22 d p0 (jUp (jNw m) p0 2 (m (-3) 0)) Q) :
    aX6_init_14 d p0 m Q := jWp_snd [(4, [true]), (9, [true]), (14, [true]), (22, [true]), (30, [true]), (38, [false])] jcX6_init 5 rfl h
set_option maxRecDepth 100000 in
theorem gX6_init_22 (d : Nat) (p0 : Int) (m : jM) (Q : Int → jM → Prop)
    (h : (m (-3) 0 < m (-2) (-7) ∧ jKd (m (-3) 0) = 20 ∧ jLn (m (-3) 0) = 40) ∧ (m (-3) 0) = (p0 + 2) ∧ aX6_init_30 d p0 (jUp (jNw m) p0 3 (m (-3) 0)) Q) :
    aX6_init_22 d p0 m Q := jWp_snd [(4, [true]), (9, [true]), (14, [true]), (22, [true]), (30, [true]), (38, [false])] jcX6_init 5 rfl h
set_option maxRecDepth 100000 in
theorem gX6_init_30 (d : Nat) (p0 : Int) (m : jM) (Q : Int → jM → Prop)
    (h : (m (-3) 0 < m (-2) (-7) ∧ jKd (m (-3) 0) = 20 ∧ jLn (m (-3) 0) = 40) ∧ (m (-3) 0) = (p0 + 3) ∧ aX6_init_38 d  (jUp (jNw m) p0 4 (m (-3) 0)) Q) :
    aX6_init_30 d p0 m Q := jWp_snd [(4, [true]), (9, [true]), (14, [true]), (22, [true]), (30, [true]), (38, [false])] jcX6_init 5 rfl h
set_option maxRecDepth 100000 in
theorem gX6_init_38 (d : Nat) (m : jM) (Q : Int → jM → Prop)
    (h : m (-3) 0 = m (-2) (-7) ∧ Q 0 m) :
    aX6_init_38 d  m Q := jWp_snd [(4, [true]), (9, [true]), (14, [true]), (22, [true]), (30, [true]), (38, [false])] jcX6_init 2 rfl h
set_option maxRecDepth 100000 in
theorem gX6_clear (d : Nat) (p0 : Int) (m : jM) (Q : Int → jM → Prop)
    (h : Q 0 (jUp (jUp m p0 0 0) p0 1 0)) :
    jK (d + 1) zX6_clear [jO 6 p0] m Q := jWp_sn0 [] jcX6_clear 8 rfl h
set_option maxRecDepth 100000 in
theorem gX6_take (d : Nat) (p0 p1 : Int) (m : jM) (Q : Int → jM → Prop)
    (h : ((0 : Int) ≤ 0 ∧ (0 : Int) ≤ 0 ∧ (0 : Int) ≤ 40 ∧ (0 : Int) + 40 ≤ 40 ∧ (0 : Int) + 40 ≤ 40) ∧ ((0 : Int) ≤ 0 ∧ (0 : Int) ≤ 0 ∧ (0 : Int) ≤ 40 ∧ (0 : Int) + 40 ≤ 40 ∧ (0 : Int) + 40 ≤ 40) ∧ ((0 : Int) ≤ 0 ∧ (0 : Int) ≤ 0 ∧ (0 : Int) ≤ 40 ∧ (0 : Int) + 40 ≤ 40 ∧ (0 : Int) + 40 ≤ 40) ∧ Q 0 (jCp (jCp (jCp (jUp (jUp m p0 0 (m p1 0)) p0 1 ((jUp m p0 0 (m p1 0)) p1 1)) (p1 + 1) 0 (p0 + 1) 0 40) (p1 + 2) 0 (p0 + 2) 0 40) (p1 + 3) 0 (p0 + 3) 0 40)) :
    jK (d + 1) zX6_take [jO 6 p0, jO 6 p1] m Q := jWp_sn0 [] jcX6_take 34 rfl h
set_option maxRecDepth 100000 in
theorem gX6_add (d : Nat) (p0 x1 x2 x3 : Int) (m : jM) (Q : Int → jM → Prop)
    (h : ((m p0 1) < 40 → ((0 : Int) ≤ (m p0 1) ∧ ((m p0 1) : Int) < 40) ∧ ((0 : Int) ≤ ((jUp m (p0 + 1) (m p0 1) x1) p0 1) ∧ (((jUp m (p0 + 1) (m p0 1) x1) p0 1) : Int) < 40) ∧ ((0 : Int) ≤ ((jUp (jUp m (p0 + 1) (m p0 1) x1) (p0 + 2) ((jUp m (p0 + 1) (m p0 1) x1) p0 1) x2) p0 1) ∧ (((jUp (jUp m (p0 + 1) (m p0 1) x1) (p0 + 2) ((jUp m (p0 + 1) (m p0 1) x1) p0 1) x2) p0 1) : Int) < 40) ∧ Q 0 (jUp (jUp (jUp (jUp m (p0 + 1) (m p0 1) x1) (p0 + 2) ((jUp m (p0 + 1) (m p0 1) x1) p0 1) x2) (p0 + 3) ((jUp (jUp m (p0 + 1) (m p0 1) x1) (p0 + 2) ((jUp m (p0 + 1) (m p0 1) x1) p0 1) x2) p0 1) x3) p0 1 (w32 (((jUp (jUp (jUp m (p0 + 1) (m p0 1) x1) (p0 + 2) ((jUp m (p0 + 1) (m p0 1) x1) p0 1) x2) (p0 + 3) ((jUp (jUp m (p0 + 1) (m p0 1) x1) (p0 + 2) ((jUp m (p0 + 1) (m p0 1) x1) p0 1) x2) p0 1) x3) p0 1) + 1)))) ∧ (¬ (m p0 1) < 40 → Q 0 m)) :
    jK (d + 1) zX6_add [jO 6 p0, jI x1, jI x2, jI x3] m Q := jWp_sn0 [] jcX6_add 30 rfl h
set_option maxRecDepth 100000 in
theorem gX6_landHere (d : Nat) (p0 x1 : Int) (m : jM) (Q : Int → jM → Prop)
    (h : (x1 < 0 → Q 0 m) ∧ (¬ x1 < 0 → (x1 < 40 → ((0 : Int) ≤ x1 ∧ (x1 : Int) < 40) ∧ Q 0 (jUp m (p0 + 2) x1 (m p0 1))) ∧ (¬ x1 < 40 → Q 0 m))) :
    jK (d + 1) zX6_landHere [jO 6 p0, jI x1] m Q := jWp_sn0 [] jcX6_landHere 13 rfl h
def aX6_names_4 (d : Nat) (p0 x1 x2 : Int) (m : jM) (Q : Int → jM → Prop) : Prop := jA (d + 1) zX6_names 4 [some (jO 6 p0), some (jI x1), some (jI x2)] [] m Q
set_option maxRecDepth 100000 in
theorem gX6_names (d : Nat) (p0 : Int) (m : jM) (Q : Int → jM → Prop)
    (h : aX6_names_4 d p0 0 0 m Q) :
    jK (d + 1) zX6_names [jO 6 p0] m Q := jWp_sn0 [(4, [true, true, true])] jcX6_names 5 rfl h
set_option maxRecDepth 100000 in
theorem gX6_names_4 (d : Nat) (p0 x1 x2 : Int) (m : jM) (Q : Int → jM → Prop)
    (h : (x2 < (m p0 1) → ((0 : Int) ≤ x2 ∧ (x2 : Int) < 40) ∧ ((m (p0 + 1) x2) = 4 → ((0 : Int) ≤ x2 ∧ (x2 : Int) < 40) ∧ aX6_names_4 d p0 (iOr x1 (iShl 1 (m (p0 + 2) x2))) (w32 (x2 + 1)) m Q) ∧ (¬ (m (p0 + 1) x2) = 4 → aX6_names_4 d p0 x1 (w32 (x2 + 1)) m Q)) ∧ (¬ x2 < (m p0 1) → Q x1 m)) :
    aX6_names_4 d p0 x1 x2 m Q := jWp_snd [(4, [true, true, true])] jcX6_names 22 rfl h
def aX6_weightBy_7 (d : Nat) (p0 n1 y1 x2 x3 : Int) (m : jM) (Q : Int → jM → Prop) : Prop := jA (d + 1) zX6_weightBy 7 [some (jO 6 p0), some (jY 0 n1 y1), some (jI x2), some (jI x3)] [] m Q
set_option maxRecDepth 100000 in
theorem gX6_weightBy (d : Nat) (p0 n1 y1 : Int) (m : jM) (Q : Int → jM → Prop)
    (h : aX6_weightBy_7 d p0 n1 y1 (m p0 0) 0 m Q) :
    jK (d + 1) zX6_weightBy [jO 6 p0, jY 0 n1 y1] m Q := jWp_sn0 [(7, [true, true, true, true])] jcX6_weightBy 6 rfl h
set_option maxRecDepth 100000 in
theorem gX6_weightBy_7 (d : Nat) (p0 n1 y1 x2 x3 : Int) (m : jM) (Q : Int → jM → Prop)
    (h : (x3 < (m p0 1) → ((0 : Int) ≤ x3 ∧ (x3 : Int) < 40) ∧ ((m (p0 + 1) x3) = 4 → ((0 : Int) ≤ x3 ∧ (x3 : Int) < 40) ∧ ((0 : Int) ≤ (m (p0 + 2) x3) ∧ ((m (p0 + 2) x3) : Int) < n1) ∧ aX6_weightBy_7 d p0 n1 y1 (w32 (x2 + (m y1 (m (p0 + 2) x3)))) (w32 (x3 + 1)) m Q) ∧ (¬ (m (p0 + 1) x3) = 4 → aX6_weightBy_7 d p0 n1 y1 x2 (w32 (x3 + 1)) m Q)) ∧ (¬ x3 < (m p0 1) → Q x2 m)) :
    aX6_weightBy_7 d p0 n1 y1 x2 x3 m Q := jWp_snd [(7, [true, true, true, true])] jcX6_weightBy 22 rfl h
def aX7_init_4 (d : Nat) (p0 : Int) (m : jM) (Q : Int → jM → Prop) : Prop := jA (d + 1) zX7_init 4 [some (jO 7 p0)] [] m Q
def aX7_init_9 (d : Nat) (p0 : Int) (m : jM) (Q : Int → jM → Prop) : Prop := jA (d + 1) zX7_init 9 [some (jO 7 p0)] [] m Q
def aX7_init_14 (d : Nat) (p0 : Int) (m : jM) (Q : Int → jM → Prop) : Prop := jA (d + 1) zX7_init 14 [some (jO 7 p0)] [] m Q
def aX7_init_22 (d : Nat) (m : jM) (Q : Int → jM → Prop) : Prop := jA (d + 1) zX7_init 22 [none] [] m Q
set_option maxRecDepth 100000 in
theorem gX7_init (d : Nat) (p0 : Int) (m : jM) (Q : Int → jM → Prop)
    (h : aX7_init_4 d p0 m Q) :
    jK (d + 1) zX7_init [jO 7 p0] m Q := jWp_sn0 [(4, [true]), (9, [true]), (14, [true]), (22, [false])] jcX7_init 3 rfl h
set_option maxRecDepth 100000 in
theorem gX7_init_4 (d : Nat) (p0 : Int) (m : jM) (Q : Int → jM → Prop)
    (h : aX7_init_9 d p0 (jUp m p0 0 (-1)) Q) :
    aX7_init_4 d p0 m Q := jWp_snd [(4, [true]), (9, [true]), (14, [true]), (22, [false])] jcX7_init 4 rfl h
set_option maxRecDepth 100000 in
theorem gX7_init_9 (d : Nat) (p0 : Int) (m : jM) (Q : Int → jM → Prop)
    (h : aX7_init_14 d p0 (jUp m p0 1 0) Q) :
    aX7_init_9 d p0 m Q := jWp_snd [(4, [true]), (9, [true]), (14, [true]), (22, [false])] jcX7_init 4 rfl h
set_option maxRecDepth 100000 in
theorem gX7_init_14 (d : Nat) (p0 : Int) (m : jM) (Q : Int → jM → Prop)
    (h : (m (-3) 0 < m (-2) (-7) ∧ jKd (m (-3) 0) = 21 ∧ jLn (m (-3) 0) = 40) ∧ (m (-3) 0) = (p0 + 1) ∧ aX7_init_22 d  (jUp (jNw m) p0 2 (m (-3) 0)) Q) :
    aX7_init_14 d p0 m Q := jWp_snd [(4, [true]), (9, [true]), (14, [true]), (22, [false])] jcX7_init 5 rfl h
set_option maxRecDepth 100000 in
theorem gX7_init_22 (d : Nat) (m : jM) (Q : Int → jM → Prop)
    (h : m (-3) 0 = m (-2) (-7) ∧ Q 0 m) :
    aX7_init_22 d  m Q := jWp_snd [(4, [true]), (9, [true]), (14, [true]), (22, [false])] jcX7_init 2 rfl h
set_option maxRecDepth 100000 in
theorem gX7_become (d : Nat) (p0 x1 x2 : Int) (m : jM) (Q : Int → jM → Prop)
    (h : jK d zJ7_fill_d0a16 [jY 1 40 (p0 + 1), jL 0] (jUp (jUp m p0 0 x1) p0 1 x2) (fun v1 m1 => Q 0 m1)) :
    jK (d + 1) zX7_become [jO 7 p0, jI x1, jI x2] m Q := jWp_sn0 [] jcX7_become 12 rfl h
set_option maxRecDepth 100000 in
theorem gX7_holds (d : Nat) (p0 x1 x2 : Int) (m : jM) (Q : Int → jM → Prop)
    (h : (x1 < 0 → Q 0 m) ∧ (¬ x1 < 0 → (x2 < 0 → Q 0 m) ∧ (¬ x2 < 0 → ((m p0 1) < x1 → Q 0 m) ∧ (¬ (m p0 1) < x1 → ((w32 ((m p0 1) - x1)) < x2 → Q 0 m) ∧ (¬ (w32 ((m p0 1) - x1)) < x2 → Q 1 m))))) :
    jK (d + 1) zX7_holds [jO 7 p0, jI x1, jI x2] m Q := jWp_sn0 [] jcX7_holds 18 rfl h
set_option maxRecDepth 100000 in
theorem gX7_set (d : Nat) (p0 x1 x2 : Int) (m : jM) (Q : Int → jM → Prop)
    (h : ((m p0 0) = 1 → ((0 : Int) ≤ x1 ∧ (x1 : Int) < 40) ∧ Q 0 (jUp m (p0 + 1) x1 (w32 x2))) ∧ (¬ (m p0 0) = 1 → ((m p0 0) = 2 → ((0 : Int) ≤ x1 ∧ (x1 : Int) < 40) ∧ Q 0 (jUp m (p0 + 1) x1 (i2b (w32 x2)))) ∧ (¬ (m p0 0) = 2 → ((0 : Int) ≤ x1 ∧ (x1 : Int) < 40) ∧ Q 0 (jUp m (p0 + 1) x1 x2)))) :
    jK (d + 1) zX7_set [jO 7 p0, jI x1, jL x2] m Q := jWp_sn0 [] jcX7_set 19 rfl h
def aX8_init_4 (d : Nat) (p0 : Int) (m : jM) (Q : Int → jM → Prop) : Prop := jA (d + 1) zX8_init 4 [some (jO 8 p0)] [] m Q
def aX8_init_12 (d : Nat) (p0 : Int) (m : jM) (Q : Int → jM → Prop) : Prop := jA (d + 1) zX8_init 12 [some (jO 8 p0)] [] m Q
def aX8_init_17 (d : Nat) (p0 : Int) (m : jM) (Q : Int → jM → Prop) : Prop := jA (d + 1) zX8_init 17 [some (jO 8 p0)] [] m Q
def aX8_init_28 (d : Nat) (p0 : Int) (m : jM) (Q : Int → jM → Prop) : Prop := jA (d + 1) zX8_init 28 [some (jO 8 p0)] [] m Q
def aX8_init_33 (d : Nat) (p0 : Int) (m : jM) (Q : Int → jM → Prop) : Prop := jA (d + 1) zX8_init 33 [some (jO 8 p0)] [] m Q
def aX8_init_38 (d : Nat) (p0 : Int) (m : jM) (Q : Int → jM → Prop) : Prop := jA (d + 1) zX8_init 38 [some (jO 8 p0)] [] m Q
def aX8_init_43 (d : Nat) (p0 : Int) (m : jM) (Q : Int → jM → Prop) : Prop := jA (d + 1) zX8_init 43 [some (jO 8 p0)] [] m Q
def aX8_init_48 (d : Nat) (p0 : Int) (m : jM) (Q : Int → jM → Prop) : Prop := jA (d + 1) zX8_init 48 [some (jO 8 p0)] [] m Q
def aX8_init_53 (d : Nat) (p0 : Int) (m : jM) (Q : Int → jM → Prop) : Prop := jA (d + 1) zX8_init 53 [some (jO 8 p0)] [] m Q
def aX8_init_58 (d : Nat) (m : jM) (Q : Int → jM → Prop) : Prop := jA (d + 1) zX8_init 58 [none] [] m Q
set_option maxRecDepth 100000 in
theorem gX8_init (d : Nat) (p0 : Int) (m : jM) (Q : Int → jM → Prop)
    (h : aX8_init_4 d p0 m Q) :
    jK (d + 1) zX8_init [jO 8 p0] m Q := jWp_sn0 [(4, [true]), (12, [true]), (17, [true]), (28, [true]), (33, [true]), (38, [true]), (43, [true]), (48, [true]), (53, [true]), (58, [false])] jcX8_init 3 rfl h
set_option maxRecDepth 100000 in
theorem gX8_init_4 (d : Nat) (p0 : Int) (m : jM) (Q : Int → jM → Prop)
    (h : (m (-3) 0 < m (-2) (-7) ∧ jKd (m (-3) 0) = 20 ∧ jLn (m (-3) 0) = 60) ∧ (m (-3) 0) = (p0 + 1) ∧ aX8_init_12 d p0 (jUp (jNw m) p0 0 (m (-3) 0)) Q) :
    aX8_init_4 d p0 m Q := jWp_snd [(4, [true]), (12, [true]), (17, [true]), (28, [true]), (33, [true]), (38, [true]), (43, [true]), (48, [true]), (53, [true]), (58, [false])] jcX8_init 5 rfl h
set_option maxRecDepth 100000 in
theorem gX8_init_12 (d : Nat) (p0 : Int) (m : jM) (Q : Int → jM → Prop)
    (h : aX8_init_17 d p0 (jUp m p0 1 0) Q) :
    aX8_init_12 d p0 m Q := jWp_snd [(4, [true]), (12, [true]), (17, [true]), (28, [true]), (33, [true]), (38, [true]), (43, [true]), (48, [true]), (53, [true]), (58, [false])] jcX8_init 4 rfl h
set_option maxRecDepth 100000 in
theorem gX8_init_17 (d : Nat) (p0 : Int) (m : jM) (Q : Int → jM → Prop)
    (h : (m (-3) 0 < m (-2) (-7) ∧ jKd (m (-3) 0) = 6) ∧ (jNw m) (-3) 0 + 3 ≤ (jNw m) (-2) (-7) ∧ jK d zX6_init [jO 6 (m (-3) 0)] (jLim (jNw m) zX6_init) (fun v1 m1 => aX8_init_28 d p0 (jUp (jUp m1 (-2) (-7) ((jNw m) (-2) (-7))) p0 2 (m (-3) 0)) Q)) :
    aX8_init_17 d p0 m Q := jWp_snd [(4, [true]), (12, [true]), (17, [true]), (28, [true]), (33, [true]), (38, [true]), (43, [true]), (48, [true]), (53, [true]), (58, [false])] jcX8_init 6 rfl h
set_option maxRecDepth 100000 in
theorem gX8_init_28 (d : Nat) (p0 : Int) (m : jM) (Q : Int → jM → Prop)
    (h : aX8_init_33 d p0 (jUp m p0 3 0) Q) :
    aX8_init_28 d p0 m Q := jWp_snd [(4, [true]), (12, [true]), (17, [true]), (28, [true]), (33, [true]), (38, [true]), (43, [true]), (48, [true]), (53, [true]), (58, [false])] jcX8_init 4 rfl h
set_option maxRecDepth 100000 in
theorem gX8_init_33 (d : Nat) (p0 : Int) (m : jM) (Q : Int → jM → Prop)
    (h : aX8_init_38 d p0 (jUp m p0 4 0) Q) :
    aX8_init_33 d p0 m Q := jWp_snd [(4, [true]), (12, [true]), (17, [true]), (28, [true]), (33, [true]), (38, [true]), (43, [true]), (48, [true]), (53, [true]), (58, [false])] jcX8_init 4 rfl h
set_option maxRecDepth 100000 in
theorem gX8_init_38 (d : Nat) (p0 : Int) (m : jM) (Q : Int → jM → Prop)
    (h : aX8_init_43 d p0 (jUp m p0 5 0) Q) :
    aX8_init_38 d p0 m Q := jWp_snd [(4, [true]), (12, [true]), (17, [true]), (28, [true]), (33, [true]), (38, [true]), (43, [true]), (48, [true]), (53, [true]), (58, [false])] jcX8_init 4 rfl h
set_option maxRecDepth 100000 in
theorem gX8_init_43 (d : Nat) (p0 : Int) (m : jM) (Q : Int → jM → Prop)
    (h : aX8_init_48 d p0 (jUp m p0 6 0) Q) :
    aX8_init_43 d p0 m Q := jWp_snd [(4, [true]), (12, [true]), (17, [true]), (28, [true]), (33, [true]), (38, [true]), (43, [true]), (48, [true]), (53, [true]), (58, [false])] jcX8_init 4 rfl h
set_option maxRecDepth 100000 in
theorem gX8_init_48 (d : Nat) (p0 : Int) (m : jM) (Q : Int → jM → Prop)
    (h : aX8_init_53 d p0 (jUp m p0 7 0) Q) :
    aX8_init_48 d p0 m Q := jWp_snd [(4, [true]), (12, [true]), (17, [true]), (28, [true]), (33, [true]), (38, [true]), (43, [true]), (48, [true]), (53, [true]), (58, [false])] jcX8_init 4 rfl h
set_option maxRecDepth 100000 in
theorem gX8_init_53 (d : Nat) (p0 : Int) (m : jM) (Q : Int → jM → Prop)
    (h : aX8_init_58 d  (jUp m p0 8 0) Q) :
    aX8_init_53 d p0 m Q := jWp_snd [(4, [true]), (12, [true]), (17, [true]), (28, [true]), (33, [true]), (38, [true]), (43, [true]), (48, [true]), (53, [true]), (58, [false])] jcX8_init 4 rfl h
set_option maxRecDepth 100000 in
theorem gX8_init_58 (d : Nat) (m : jM) (Q : Int → jM → Prop)
    (h : m (-3) 0 = m (-2) (-7) ∧ Q 0 m) :
    aX8_init_58 d  m Q := jWp_snd [(4, [true]), (12, [true]), (17, [true]), (28, [true]), (33, [true]), (38, [true]), (43, [true]), (48, [true]), (53, [true]), (58, [false])] jcX8_init 2 rfl h
set_option maxRecDepth 100000 in
theorem gX8_add (d : Nat) (x1 : Int) (m : jM) (Q : Int → jM → Prop)
    (h : ((m 45 1) < 60 → ((0 : Int) ≤ (m 45 1) ∧ ((m 45 1) : Int) < 60) ∧ Q 1 (jUp (jUp m 46 (m 45 1) x1) 45 1 (w32 (((jUp m 46 (m 45 1) x1) 45 1) + 1)))) ∧ (¬ (m 45 1) < 60 → Q 0 m)) :
    jK (d + 1) zX8_add [jO 8 45, jI x1] m Q := jWp_sn0 [] jcX8_add 19 rfl h
set_option maxRecDepth 100000 in
theorem gX8_parse (d : Nat) (m : jM) (Q : Int → jM → Prop)
    (h : jK d zX6_clear [jO 6 (m 45 2)] m (fun v1 m1 => jK d zX8_step [jO 8 45] (jUp (jUp m1 45 3 0) 45 4 0) (fun v2 m2 => jK d zX8_expr [jO 8 45] m2 (fun v3 m3 => (v3 = 0 → Q (m3 45 6) m3) ∧ (¬ v3 = 0 → ((m3 45 5) = 0 → Q (-1) m3) ∧ (¬ (m3 45 5) = 0 → Q (m3 45 6) m3)))))) :
    jK (d + 1) zX8_parse [jO 8 45] m Q := jWp_sn0 [] jcX8_parse 21 rfl h
set_option maxRecDepth 100000 in
theorem gX8_expr (d : Nat) (m : jM) (Q : Int → jM → Prop)
    (h : jK d zX8_sum [jO 8 45] m (fun v1 m1 => (v1 = 0 → Q 0 m1) ∧ (¬ v1 = 0 → ((m1 45 5) = 60 → jK d zX8_part [jO 8 45] m1 (fun v2 m2 => (v2 = 0 → Q 0 m2) ∧ (¬ v2 = 0 → jK d zX8_sum [jO 8 45] m2 (fun v3 m3 => (v3 = 0 → Q 0 m3) ∧ (¬ v3 = 0 → ((m3 45 5) = 63 → jK d zX6_add [jO 6 (m3 45 2), jI 14, jI 0, jI (m1 45 6)] m3 (fun v4 m4 => jK d zX8_step [jO 8 45] m4 (fun v5 m5 => jK d zX8_expr [jO 8 45] m5 (fun v6 m6 => (v6 = 0 → Q 0 m6) ∧ (¬ v6 = 0 → ((m6 45 5) = 58 → jK d zX6_add [jO 6 (m6 45 2), jI 15, jI 0, jI (m6 45 6)] m6 (fun v7 m7 => jK d zX6_landHere [jO 6 (m7 45 2), jI (m3 (m3 45 2) 1)] m7 (fun v8 m8 => jK d zX8_step [jO 8 45] m8 (fun v9 m9 => jK d zX8_expr [jO 8 45] m9 (fun v10 m10 => (v10 = 0 → Q 0 m10) ∧ (¬ v10 = 0 → jK d zX6_landHere [jO 6 (m10 45 2), jI (m6 (m6 45 2) 1)] m10 (fun v11 m11 => Q 1 m11))))))) ∧ (¬ (m6 45 5) = 58 → Q 0 m6)))))) ∧ (¬ (m3 45 5) = 63 → Q 0 m3)))))) ∧ (¬ (m1 45 5) = 60 → Q 1 m1)))) :
    jK (d + 1) zX8_expr [jO 8 45] m Q := jWp_sn0 [] jcX8_expr 66 rfl h
def aX8_sum_11 (d : Nat) (x1 : Int) (m : jM) (Q : Int → jM → Prop) : Prop := jA (d + 1) zX8_sum 11 [some (jO 8 45), some (jI x1), none, none] [] m Q
def aX8_sum_35 (d : Nat) (x1 : Int) (m : jM) (Q : Int → jM → Prop) : Prop := jA (d + 1) zX8_sum 35 [some (jO 8 45), some (jI x1), none, none] [] m Q
set_option maxRecDepth 100000 in
theorem gX8_sum (d : Nat) (m : jM) (Q : Int → jM → Prop)
    (h : jK d zX8_product [jO 8 45] m (fun v1 m1 => (v1 = 0 → Q 0 m1) ∧ (¬ v1 = 0 → aX8_sum_11 d 0 m1 Q))) :
    jK (d + 1) zX8_sum [jO 8 45] m Q := jWp_sn0 [(11, [true, true, false, false]), (35, [true, true, false, false])] jcX8_sum 6 rfl h
set_option maxRecDepth 100000 in
theorem gX8_sum_11 (d : Nat) (x1 : Int) (m : jM) (Q : Int → jM → Prop)
    (h : (24 < x1 → Q 1 m) ∧ (¬ 24 < x1 → ((m 45 5) = 43 → aX8_sum_35 d x1 m Q) ∧ (¬ (m 45 5) = 43 → ((m 45 5) = 45 → aX8_sum_35 d x1 m Q) ∧ (¬ (m 45 5) = 45 → Q 1 m)))) :
    aX8_sum_11 d x1 m Q := jWp_snd [(11, [true, true, false, false]), (35, [true, true, false, false])] jcX8_sum 14 rfl h
set_option maxRecDepth 100000 in
theorem gX8_sum_35 (d : Nat) (x1 : Int) (m : jM) (Q : Int → jM → Prop)
    (h : ((m 45 5) = 43 → jK d zX8_part [jO 8 45] m (fun v1 m1 => (v1 = 0 → Q 0 m1) ∧ (¬ v1 = 0 → jK d zX8_product [jO 8 45] m1 (fun v2 m2 => (v2 = 0 → Q 0 m2) ∧ (¬ v2 = 0 → jK d zX6_add [jO 6 (m2 45 2), jI 7, jI 0, jI (m 45 6)] m2 (fun v3 m3 => aX8_sum_11 d (w32 (x1 + 1)) m3 Q)))))) ∧ (¬ (m 45 5) = 43 → jK d zX8_part [jO 8 45] m (fun v4 m4 => (v4 = 0 → Q 0 m4) ∧ (¬ v4 = 0 → jK d zX8_product [jO 8 45] m4 (fun v5 m5 => (v5 = 0 → Q 0 m5) ∧ (¬ v5 = 0 → jK d zX6_add [jO 6 (m5 45 2), jI 8, jI 0, jI (m 45 6)] m5 (fun v6 m6 => aX8_sum_11 d (w32 (x1 + 1)) m6 Q))))))) :
    aX8_sum_35 d x1 m Q := jWp_snd [(11, [true, true, false, false]), (35, [true, true, false, false])] jcX8_sum 25 rfl h
def aX8_product_11 (d : Nat) (x1 : Int) (m : jM) (Q : Int → jM → Prop) : Prop := jA (d + 1) zX8_product 11 [some (jO 8 45), some (jI x1), none] [] m Q
set_option maxRecDepth 100000 in
theorem gX8_product (d : Nat) (m : jM) (Q : Int → jM → Prop)
    (h : jK d zX8_factor [jO 8 45] m (fun v1 m1 => (v1 = 0 → Q 0 m1) ∧ (¬ v1 = 0 → aX8_product_11 d 0 m1 Q))) :
    jK (d + 1) zX8_product [jO 8 45] m Q := jWp_sn0 [(11, [true, true, false])] jcX8_product 6 rfl h
set_option maxRecDepth 100000 in
theorem gX8_product_11 (d : Nat) (x1 : Int) (m : jM) (Q : Int → jM → Prop)
    (h : (24 < x1 → Q 1 m) ∧ (¬ 24 < x1 → ((m 45 5) = 42 → jK d zX8_part [jO 8 45] m (fun v1 m1 => (v1 = 0 → Q 0 m1) ∧ (¬ v1 = 0 → jK d zX8_factor [jO 8 45] m1 (fun v2 m2 => (v2 = 0 → Q 0 m2) ∧ (¬ v2 = 0 → jK d zX6_add [jO 6 (m2 45 2), jI 9, jI 0, jI (m 45 6)] m2 (fun v3 m3 => aX8_product_11 d (w32 (x1 + 1)) m3 Q)))))) ∧ (¬ (m 45 5) = 42 → Q 1 m))) :
    aX8_product_11 d x1 m Q := jWp_snd [(11, [true, true, false])] jcX8_product 25 rfl h
def aX8_factor_4 (d : Nat) (x1 x2 : Int) (m : jM) (Q : Int → jM → Prop) : Prop := jA (d + 1) zX8_factor 4 [some (jO 8 45), some (jI x1), some (jI x2)] [] m Q
def aX8_factor_44 (d : Nat) (x1 : Int) (m : jM) (Q : Int → jM → Prop) : Prop := jA (d + 1) zX8_factor 44 [some (jO 8 45), some (jI x1), none] [] m Q
set_option maxRecDepth 100000 in
theorem gX8_factor (d : Nat) (m : jM) (Q : Int → jM → Prop)
    (h : aX8_factor_4 d 0 0 m Q) :
    jK (d + 1) zX8_factor [jO 8 45] m Q := jWp_sn0 [(4, [true, true, true]), (44, [true, true, false])] jcX8_factor 5 rfl h
set_option maxRecDepth 100000 in
theorem gX8_factor_4 (d : Nat) (x1 x2 : Int) (m : jM) (Q : Int → jM → Prop)
    (h : (24 < x2 → aX8_factor_44 d x1 m Q) ∧ (¬ 24 < x2 → ((m 45 5) = 45 → jK d zX8_part [jO 8 45] m (fun v1 m1 => (v1 = 0 → Q 0 m1) ∧ (¬ v1 = 0 → (x1 = 0 → aX8_factor_4 d 1 (w32 (x2 + 1)) m1 Q) ∧ (¬ x1 = 0 → aX8_factor_4 d 0 (w32 (x2 + 1)) m1 Q)))) ∧ (¬ (m 45 5) = 45 → aX8_factor_44 d x1 m Q))) :
    aX8_factor_4 d x1 x2 m Q := jWp_snd [(4, [true, true, true]), (44, [true, true, false])] jcX8_factor 18 rfl h
set_option maxRecDepth 100000 in
theorem gX8_factor_44 (d : Nat) (x1 : Int) (m : jM) (Q : Int → jM → Prop)
    (h : jK d zX8_atom [jO 8 45] m (fun v1 m1 => (v1 = 0 → Q 0 m1) ∧ (¬ v1 = 0 → (x1 = 0 → Q 1 m1) ∧ (¬ x1 = 0 → jK d zX6_add [jO 6 (m1 45 2), jI 5, jI 0, jI 0] m1 (fun v2 m2 => Q 1 m2))))) :
    aX8_factor_44 d x1 m Q := jWp_snd [(4, [true, true, true]), (44, [true, true, false])] jcX8_factor 14 rfl h
set_option maxRecDepth 100000 in
theorem gX8_atom (d : Nat) (m : jM) (Q : Int → jM → Prop)
    (h : ((m 45 5) = 1 → jK d zX6_add [jO 6 (m 45 2), jI (m 45 7), jI (m 45 8), jI (m 45 6)] m (fun v1 m1 => jK d zX8_part [jO 8 45] m1 (fun v2 m2 => (if v2 = 0 ∨ v2 = 1 then Q v2 m2 else False)))) ∧ ((m 45 5) = 2 → jK d zX8_function [jO 8 45] m (fun v3 m3 => (if v3 = 0 ∨ v3 = 1 then Q v3 m3 else False))) ∧ ((m 45 5) = 40 → jK d zX8_enter [jO 8 45] m (fun v4 m4 => (v4 = 0 → Q 0 m4) ∧ (¬ v4 = 0 → jK d zX8_expr [jO 8 45] m4 (fun v5 m5 => (v5 = 0 → Q 0 m5) ∧ (¬ v5 = 0 → jK d zX8_leave [jO 8 45, jI 41] m5 (fun v6 m6 => (v6 = 0 → Q 0 m6) ∧ (¬ v6 = 0 → Q 1 m6))))))) ∧ ((m 45 5) = 124 → ((m (m 45 2) 0) < 24 → jK d zX8_enter [jO 8 45] m (fun v7 m7 => (v7 = 0 → Q 0 m7) ∧ (¬ v7 = 0 → jK d zX8_expr [jO 8 45] m7 (fun v8 m8 => (v8 = 0 → Q 0 m8) ∧ (¬ v8 = 0 → jK d zX8_leave [jO 8 45, jI 124] m8 (fun v9 m9 => (v9 = 0 → Q 0 m9) ∧ (¬ v9 = 0 → jK d zX6_add [jO 6 (m9 45 2), jI 6, jI 0, jI 0] m9 (fun v10 m10 => Q 1 m10)))))))) ∧ (¬ (m (m 45 2) 0) < 24 → Q 0 m)) ∧ ((∀ q ∈ [((1 : Int), (48 : Int)), ((2 : Int), (151 : Int)), ((40 : Int), (72 : Int)), ((124 : Int), (101 : Int))], (m 45 5) ≠ (q : Int × Int).1) → Q 0 m) ∧ True) :
    jK (d + 1) zX8_atom [jO 8 45] m Q := jWp_sn0 [] jcX8_atom 27 rfl h
set_option maxRecDepth 100000 in
theorem gX8_function (d : Nat) (m : jM) (Q : Int → jM → Prop)
    (h : jK d zX8_part [jO 8 45] m (fun v1 m1 => (v1 = 0 → Q 0 m1) ∧ (¬ v1 = 0 → ((m1 45 5) = 40 → jK d zX8_enter [jO 8 45] m1 (fun v2 m2 => (v2 = 0 → Q 0 m2) ∧ (¬ v2 = 0 → jK d zX8_expr [jO 8 45] m2 (fun v3 m3 => (v3 = 0 → Q 0 m3) ∧ (¬ v3 = 0 → ((m3 45 5) = 44 → jK d zX8_step [jO 8 45] m3 (fun v4 m4 => jK d zX8_expr [jO 8 45] m4 (fun v5 m5 => (v5 = 0 → Q 0 m5) ∧ (¬ v5 = 0 → jK d zX8_leave [jO 8 45, jI 41] m5 (fun v6 m6 => (v6 = 0 → Q 0 m6) ∧ (¬ v6 = 0 → jK d zX6_add [jO 6 (m6 45 2), jI (m 45 7), jI 0, jI (m 45 6)] m6 (fun v7 m7 => Q 1 m7))))))) ∧ (¬ (m3 45 5) = 44 → Q 0 m3)))))) ∧ (¬ (m1 45 5) = 40 → Q 0 m1)))) :
    jK (d + 1) zX8_function [jO 8 45] m Q := jWp_sn0 [] jcX8_function 41 rfl h
set_option maxRecDepth 100000 in
theorem gX8_part (d : Nat) (m : jM) (Q : Int → jM → Prop)
    (h : ((m (m 45 2) 0) < 24 → jK d zX8_step [jO 8 45] (jUp m (m 45 2) 0 (w32 ((m (m 45 2) 0) + 1))) (fun v1 m1 => Q 1 m1)) ∧ (¬ (m (m 45 2) 0) < 24 → Q 0 m)) :
    jK (d + 1) zX8_part [jO 8 45] m Q := jWp_sn0 [] jcX8_part 17 rfl h
set_option maxRecDepth 100000 in
theorem gX8_enter (d : Nat) (m : jM) (Q : Int → jM → Prop)
    (h : ((m 45 4) < 5 → ((m 45 5) = 124 → jK d zX8_step [jO 8 45] (jUp (jUp m (m 45 2) 0 (w32 ((m (m 45 2) 0) + 1))) 45 4 (w32 (((jUp m (m 45 2) 0 (w32 ((m (m 45 2) 0) + 1))) 45 4) + 1))) (fun v1 m1 => Q 1 m1)) ∧ (¬ (m 45 5) = 124 → jK d zX8_step [jO 8 45] (jUp m 45 4 (w32 ((m 45 4) + 1))) (fun v2 m2 => Q 1 m2))) ∧ (¬ (m 45 4) < 5 → Q 0 m)) :
    jK (d + 1) zX8_enter [jO 8 45] m Q := jWp_sn0 [] jcX8_enter 26 rfl h
set_option maxRecDepth 100000 in
theorem gX8_leave (d : Nat) (x1 : Int) (m : jM) (Q : Int → jM → Prop)
    (h : ((m 45 5) = x1 → jK d zX8_step [jO 8 45] (jUp m 45 4 (w32 ((m 45 4) - 1))) (fun v1 m1 => Q 1 m1)) ∧ (¬ (m 45 5) = x1 → Q 0 m)) :
    jK (d + 1) zX8_leave [jO 8 45, jI x1] m Q := jWp_sn0 [] jcX8_leave 15 rfl h
def aX8_step_0 (d : Nat) (m : jM) (Q : Int → jM → Prop) : Prop := jA (d + 1) zX8_step 0 [some (jO 8 45), none] [] m Q
def aX8_step_38 (d : Nat) (m : jM) (Q : Int → jM → Prop) : Prop := jA (d + 1) zX8_step 38 [some (jO 8 45), none] [] m Q
set_option maxRecDepth 100000 in
theorem gX8_step (d : Nat) (m : jM) (Q : Int → jM → Prop)
    (h : aX8_step_0 d  m Q) :
    jK (d + 1) zX8_step [jO 8 45] m Q := jWp_c0 [true, false] h
set_option maxRecDepth 100000 in
theorem gX8_step_0 (d : Nat) (m : jM) (Q : Int → jM → Prop)
    (h : ((m 45 3) < (m 45 1) → ((0 : Int) ≤ (m 45 3) ∧ ((m 45 3) : Int) < 60) ∧ ((m 46 (m 45 3)) = 32 → aX8_step_0 d  (jUp m 45 3 (w32 ((m 45 3) + 1))) Q) ∧ (¬ (m 46 (m 45 3)) = 32 → aX8_step_38 d  m Q)) ∧ (¬ (m 45 3) < (m 45 1) → aX8_step_38 d  m Q)) :
    aX8_step_0 d  m Q := jWp_snd [(0, [true, false]), (38, [true, false])] jcX8_step 20 rfl h
set_option maxRecDepth 100000 in
theorem gX8_step_38 (d : Nat) (m : jM) (Q : Int → jM → Prop)
    (h : (((jUp m 45 6 (m 45 3)) 45 3) < ((jUp m 45 6 (m 45 3)) 45 1) → ((0 : Int) ≤ ((jUp m 45 6 (m 45 3)) 45 3) ∧ (((jUp m 45 6 (m 45 3)) 45 3) : Int) < 60) ∧ jK d zX8_isLetter [jI ((jUp m 45 6 (m 45 3)) 46 ((jUp m 45 6 (m 45 3)) 45 3))] (jUp (jUp m 45 6 (m 45 3)) 45 3 (w32 (((jUp m 45 6 (m 45 3)) 45 3) + 1))) (fun v1 m1 => (v1 = 0 → jK d zX8_isDigit [jI ((jUp m 45 6 (m 45 3)) 46 ((jUp m 45 6 (m 45 3)) 45 3))] m1 (fun v2 m2 => (v2 = 0 → jK d zX8_isSign [jI ((jUp m 45 6 (m 45 3)) 46 ((jUp m 45 6 (m 45 3)) 45 3))] m2 (fun v3 m3 => (v3 = 0 → Q 0 (jUp m3 45 5 3)) ∧ (¬ v3 = 0 → Q 0 (jUp m3 45 5 ((jUp m 45 6 (m 45 3)) 46 ((jUp m 45 6 (m 45 3)) 45 3)))))) ∧ (¬ v2 = 0 → jK d zX8_digits [jO 8 45, jI ((jUp m 45 6 (m 45 3)) 46 ((jUp m 45 6 (m 45 3)) 45 3))] m2 (fun v4 m4 => Q 0 m4)))) ∧ (¬ v1 = 0 → jK d zX8_word [jO 8 45, jI ((jUp m 45 6 (m 45 3)) 46 ((jUp m 45 6 (m 45 3)) 45 3))] m1 (fun v5 m5 => Q 0 m5)))) ∧ (¬ ((jUp m 45 6 (m 45 3)) 45 3) < ((jUp m 45 6 (m 45 3)) 45 1) → Q 0 (jUp (jUp m 45 6 (m 45 3)) 45 5 0))) :
    aX8_step_38 d  m Q := jWp_snd [(0, [true, false]), (38, [true, false])] jcX8_step 36 rfl h
def aX8_word_0 (d : Nat) (x1 : Int) (m : jM) (Q : Int → jM → Prop) : Prop := jA (d + 1) zX8_word 0 [some (jO 8 45), some (jI x1), none] [] m Q
def aX8_word_39 (d : Nat) (x1 : Int) (m : jM) (Q : Int → jM → Prop) : Prop := jA (d + 1) zX8_word 39 [some (jO 8 45), some (jI x1), none] [] m Q
set_option maxRecDepth 100000 in
theorem gX8_word (d : Nat) (x1 : Int) (m : jM) (Q : Int → jM → Prop)
    (h : aX8_word_0 d x1 m Q) :
    jK (d + 1) zX8_word [jO 8 45, jI x1] m Q := jWp_c0 [true, true, false] h
set_option maxRecDepth 100000 in
theorem gX8_word_0 (d : Nat) (x1 : Int) (m : jM) (Q : Int → jM → Prop)
    (h : ((m 45 3) < (m 45 1) → ((0 : Int) ≤ (m 45 3) ∧ ((m 45 3) : Int) < 60) ∧ jK d zX8_isLetter [jI (m 46 (m 45 3))] m (fun v1 m1 => (v1 = 0 → aX8_word_39 d x1 m1 Q) ∧ (¬ v1 = 0 → aX8_word_0 d x1 (jUp m1 45 3 (w32 ((m1 45 3) + 1))) Q))) ∧ (¬ (m 45 3) < (m 45 1) → aX8_word_39 d x1 m Q)) :
    aX8_word_0 d x1 m Q := jWp_snd [(0, [true, true, false]), (39, [true, true, false])] jcX8_word 20 rfl h
set_option maxRecDepth 100000 in
theorem gX8_word_39 (d : Nat) (x1 : Int) (m : jM) (Q : Int → jM → Prop)
    (h : ((w32 ((m 45 3) - (m 45 6))) = 1 → jK d zX8_nameOfOne [jO 8 45, jI x1] m (fun v1 m1 => Q 0 m1)) ∧ (¬ (w32 ((m 45 3) - (m 45 6))) = 1 → ((w32 ((m 45 3) - (m 45 6))) = 3 → ((0 : Int) ≤ (w32 ((m 45 6) + 1)) ∧ ((w32 ((m 45 6) + 1)) : Int) < 60) ∧ ((0 : Int) ≤ (w32 ((m 45 6) + 2)) ∧ ((w32 ((m 45 6) + 2)) : Int) < 60) ∧ jK d zX8_nameOfThree [jO 8 45, jI x1, jI (m 46 (w32 ((m 45 6) + 1))), jI (m 46 (w32 ((m 45 6) + 2)))] m (fun v2 m2 => Q 0 m2)) ∧ (¬ (w32 ((m 45 3) - (m 45 6))) = 3 → Q 0 (jUp m 45 5 3)))) :
    aX8_word_39 d x1 m Q := jWp_snd [(0, [true, true, false]), (39, [true, true, false])] jcX8_word 32 rfl h
set_option maxRecDepth 100000 in
theorem gX8_nameOfOne (d : Nat) (x1 : Int) (m : jM) (Q : Int → jM → Prop)
    (h : (99 < x1 → (x1 < 120 → (x1 < 112 → Q 0 (jUp (jUp m 45 5 1) 45 5 3)) ∧ (¬ x1 < 112 → (115 < x1 → Q 0 (jUp (jUp m 45 5 1) 45 5 3)) ∧ (¬ 115 < x1 → Q 0 (jUp (jUp (jUp m 45 5 1) 45 7 4) 45 8 (w32 (x1 - 112)))))) ∧ (¬ x1 < 120 → Q 0 (jUp (jUp (jUp m 45 5 1) 45 7 3) 45 8 (w32 (x1 - 120))))) ∧ (¬ 99 < x1 → Q 0 (jUp (jUp (jUp m 45 5 1) 45 7 2) 45 8 (w32 (x1 - 97))))) :
    jK (d + 1) zX8_nameOfOne [jO 8 45, jI x1] m Q := jWp_sn0 [] jcX8_nameOfOne 26 rfl h
def aX8_nameOfThree_32 (d : Nat) (x1 x2 x3 : Int) (m : jM) (Q : Int → jM → Prop) : Prop := jA (d + 1) zX8_nameOfThree 32 [some (jO 8 45), some (jI x1), some (jI x2), some (jI x3)] [] m Q
def aX8_nameOfThree_86 (d : Nat) (x1 x2 x3 : Int) (m : jM) (Q : Int → jM → Prop) : Prop := jA (d + 1) zX8_nameOfThree 86 [some (jO 8 45), some (jI x1), some (jI x2), some (jI x3)] [] m Q
set_option maxRecDepth 100000 in
theorem gX8_nameOfThree (d : Nat) (x1 x2 x3 : Int) (m : jM) (Q : Int → jM → Prop)
    (h : (x1 = 109 → (x2 = 105 → (x3 = 110 → Q 0 (jUp (jUp m 45 5 2) 45 7 10)) ∧ (¬ x3 = 110 → aX8_nameOfThree_32 d x1 x2 x3 (jUp m 45 5 2) Q)) ∧ (¬ x2 = 105 → aX8_nameOfThree_32 d x1 x2 x3 (jUp m 45 5 2) Q)) ∧ (¬ x1 = 109 → aX8_nameOfThree_32 d x1 x2 x3 (jUp m 45 5 2) Q)) :
    jK (d + 1) zX8_nameOfThree [jO 8 45, jI x1, jI x2, jI x3] m Q := jWp_sn0 [(32, [true, true, true, true]), (86, [true, true, true, true])] jcX8_nameOfThree 18 rfl h
set_option maxRecDepth 100000 in
theorem gX8_nameOfThree_32 (d : Nat) (x1 x2 x3 : Int) (m : jM) (Q : Int → jM → Prop)
    (h : (x1 = 109 → (x2 = 97 → (x3 = 120 → Q 0 (jUp m 45 7 11)) ∧ (¬ x3 = 120 → (x1 = 100 → (x2 = 105 → (x3 = 118 → Q 0 (jUp m 45 7 12)) ∧ (¬ x3 = 118 → aX8_nameOfThree_86 d x1 x2 x3 m Q)) ∧ (¬ x2 = 105 → aX8_nameOfThree_86 d x1 x2 x3 m Q)) ∧ (¬ x1 = 100 → aX8_nameOfThree_86 d x1 x2 x3 m Q))) ∧ (¬ x2 = 97 → (x1 = 100 → (x2 = 105 → (x3 = 118 → Q 0 (jUp m 45 7 12)) ∧ (¬ x3 = 118 → aX8_nameOfThree_86 d x1 x2 x3 m Q)) ∧ (¬ x2 = 105 → aX8_nameOfThree_86 d x1 x2 x3 m Q)) ∧ (¬ x1 = 100 → aX8_nameOfThree_86 d x1 x2 x3 m Q))) ∧ (¬ x1 = 109 → (x1 = 100 → (x2 = 105 → (x3 = 118 → Q 0 (jUp m 45 7 12)) ∧ (¬ x3 = 118 → aX8_nameOfThree_86 d x1 x2 x3 m Q)) ∧ (¬ x2 = 105 → aX8_nameOfThree_86 d x1 x2 x3 m Q)) ∧ (¬ x1 = 100 → aX8_nameOfThree_86 d x1 x2 x3 m Q))) :
    aX8_nameOfThree_32 d x1 x2 x3 m Q := jWp_snd [(32, [true, true, true, true]), (86, [true, true, true, true])] jcX8_nameOfThree 24 rfl h
set_option maxRecDepth 100000 in
theorem gX8_nameOfThree_86 (d : Nat) (x1 x2 x3 : Int) (m : jM) (Q : Int → jM → Prop)
    (h : (x1 = 109 → (x2 = 111 → (x3 = 100 → Q 0 (jUp m 45 7 13)) ∧ (¬ x3 = 100 → Q 0 (jUp m 45 5 3))) ∧ (¬ x2 = 111 → Q 0 (jUp m 45 5 3))) ∧ (¬ x1 = 109 → Q 0 (jUp m 45 5 3))) :
    aX8_nameOfThree_86 d x1 x2 x3 m Q := jWp_snd [(32, [true, true, true, true]), (86, [true, true, true, true])] jcX8_nameOfThree 15 rfl h
def aX8_digits_18 (d : Nat) (m : jM) (Q : Int → jM → Prop) : Prop := jA (d + 1) zX8_digits 18 [some (jO 8 45), none] [] m Q
set_option maxRecDepth 100000 in
theorem gX8_digits (d : Nat) (x1 : Int) (m : jM) (Q : Int → jM → Prop)
    (h : aX8_digits_18 d  (jUp (jUp (jUp m 45 5 1) 45 7 1) 45 8 (w32 (x1 - 48))) Q) :
    jK (d + 1) zX8_digits [jO 8 45, jI x1] m Q := jWp_sn0 [(18, [true, false])] jcX8_digits 12 rfl h
set_option maxRecDepth 100000 in
theorem gX8_digits_18 (d : Nat) (m : jM) (Q : Int → jM → Prop)
    (h : ((m 45 3) < (m 45 1) → ((0 : Int) ≤ (m 45 3) ∧ ((m 45 3) : Int) < 60) ∧ jK d zX8_isDigit [jI (m 46 (m 45 3))] m (fun v1 m1 => (v1 = 0 → (4 < (w32 ((m1 45 3) - (m1 45 6))) → Q 0 (jUp m1 45 5 3)) ∧ (¬ 4 < (w32 ((m1 45 3) - (m1 45 6))) → Q 0 m1)) ∧ (¬ v1 = 0 → ((0 : Int) ≤ (m1 45 3) ∧ ((m1 45 3) : Int) < 60) ∧ aX8_digits_18 d  (jUp (jUp m1 45 8 (w32 ((w32 ((w32 ((m1 45 8) * 10)) + (m1 46 (m1 45 3)))) - 48))) 45 3 (w32 (((jUp m1 45 8 (w32 ((w32 ((w32 ((m1 45 8) * 10)) + (m1 46 (m1 45 3)))) - 48))) 45 3) + 1))) Q))) ∧ (¬ (m 45 3) < (m 45 1) → (4 < (w32 ((m 45 3) - (m 45 6))) → Q 0 (jUp m 45 5 3)) ∧ (¬ 4 < (w32 ((m 45 3) - (m 45 6))) → Q 0 m))) :
    aX8_digits_18 d  m Q := jWp_snd [(18, [true, false])] jcX8_digits 34 rfl h
set_option maxRecDepth 100000 in
theorem gX8_isLetter (d : Nat) (x0 : Int) (m : jM) (Q : Int → jM → Prop)
    (h : (x0 < 97 → Q 0 m) ∧ (¬ x0 < 97 → (122 < x0 → Q 0 m) ∧ (¬ 122 < x0 → Q 1 m))) :
    jK (d + 1) zX8_isLetter [jI x0] m Q := jWp_sn0 [] jcX8_isLetter 10 rfl h
set_option maxRecDepth 100000 in
theorem gX8_isDigit (d : Nat) (x0 : Int) (m : jM) (Q : Int → jM → Prop)
    (h : (x0 < 48 → Q 0 m) ∧ (¬ x0 < 48 → (57 < x0 → Q 0 m) ∧ (¬ 57 < x0 → Q 1 m))) :
    jK (d + 1) zX8_isDigit [jI x0] m Q := jWp_sn0 [] jcX8_isDigit 10 rfl h
set_option maxRecDepth 100000 in
theorem gX8_isSign (d : Nat) (x0 : Int) (m : jM) (Q : Int → jM → Prop)
    (h : (x0 = 40 → Q 1 m) ∧ (x0 = 41 → Q 1 m) ∧ (x0 = 42 → Q 1 m) ∧ (x0 = 43 → Q 1 m) ∧ (x0 = 44 → Q 1 m) ∧ (x0 = 45 → Q 1 m) ∧ (x0 = 58 → Q 1 m) ∧ (x0 = 60 → Q 1 m) ∧ (x0 = 63 → Q 1 m) ∧ (x0 = 124 → Q 1 m) ∧ ((∀ q ∈ [((40 : Int), (92 : Int)), ((41 : Int), (92 : Int)), ((42 : Int), (92 : Int)), ((43 : Int), (92 : Int)), ((44 : Int), (92 : Int)), ((45 : Int), (92 : Int)), ((58 : Int), (92 : Int)), ((60 : Int), (92 : Int)), ((63 : Int), (92 : Int)), ((124 : Int), (92 : Int))], x0 ≠ (q : Int × Int).1) → Q 0 m) ∧ True) :
    jK (d + 1) zX8_isSign [jI x0] m Q := jWp_sn0 [] jcX8_isSign 5 rfl h
def aX9_init_4 (d : Nat) (p0 : Int) (m : jM) (Q : Int → jM → Prop) : Prop := jA (d + 1) zX9_init 4 [some (jO 9 p0)] [] m Q
def aX9_init_13 (d : Nat) (p0 : Int) (m : jM) (Q : Int → jM → Prop) : Prop := jA (d + 1) zX9_init 13 [some (jO 9 p0)] [] m Q
def aX9_init_20 (d : Nat) (p0 : Int) (m : jM) (Q : Int → jM → Prop) : Prop := jA (d + 1) zX9_init 20 [some (jO 9 p0)] [] m Q
def aX9_init_25 (d : Nat) (p0 : Int) (m : jM) (Q : Int → jM → Prop) : Prop := jA (d + 1) zX9_init 25 [some (jO 9 p0)] [] m Q
def aX9_init_30 (d : Nat) (p0 : Int) (m : jM) (Q : Int → jM → Prop) : Prop := jA (d + 1) zX9_init 30 [some (jO 9 p0)] [] m Q
def aX9_init_35 (d : Nat) (p0 : Int) (m : jM) (Q : Int → jM → Prop) : Prop := jA (d + 1) zX9_init 35 [some (jO 9 p0)] [] m Q
def aX9_init_40 (d : Nat) (p0 : Int) (m : jM) (Q : Int → jM → Prop) : Prop := jA (d + 1) zX9_init 40 [some (jO 9 p0)] [] m Q
def aX9_init_45 (d : Nat) (m : jM) (Q : Int → jM → Prop) : Prop := jA (d + 1) zX9_init 45 [none] [] m Q
set_option maxRecDepth 100000 in
theorem gX9_init (d : Nat) (p0 : Int) (m : jM) (Q : Int → jM → Prop)
    (h : aX9_init_4 d p0 m Q) :
    jK (d + 1) zX9_init [jO 9 p0] m Q := jWp_sn0 [(4, [true]), (13, [true]), (20, [true]), (25, [true]), (30, [true]), (35, [true]), (40, [true]), (45, [false])] jcX9_init 3 rfl h
set_option maxRecDepth 100000 in
theorem gX9_init_4 (d : Nat) (p0 : Int) (m : jM) (Q : Int → jM → Prop)
    (h : (m (-3) 0 < m (-2) (-7) ∧ jKd (m (-3) 0) = 21 ∧ jLn (m (-3) 0) = 160) ∧ (m (-3) 0) = (p0 + 1) ∧ aX9_init_13 d p0 (jUp (jNw m) p0 0 (m (-3) 0)) Q) :
    aX9_init_4 d p0 m Q := jWp_snd [(4, [true]), (13, [true]), (20, [true]), (25, [true]), (30, [true]), (35, [true]), (40, [true]), (45, [false])] jcX9_init 5 rfl h
set_option maxRecDepth 100000 in
theorem gX9_init_13 (d : Nat) (p0 : Int) (m : jM) (Q : Int → jM → Prop)
    (h : (m (-3) 0 < m (-2) (-7) ∧ jKd (m (-3) 0) = 20 ∧ jLn (m (-3) 0) = 4) ∧ (m (-3) 0) = (p0 + 2) ∧ aX9_init_20 d p0 (jUp (jNw m) p0 1 (m (-3) 0)) Q) :
    aX9_init_13 d p0 m Q := jWp_snd [(4, [true]), (13, [true]), (20, [true]), (25, [true]), (30, [true]), (35, [true]), (40, [true]), (45, [false])] jcX9_init 5 rfl h
set_option maxRecDepth 100000 in
theorem gX9_init_20 (d : Nat) (p0 : Int) (m : jM) (Q : Int → jM → Prop)
    (h : aX9_init_25 d p0 (jUp m p0 2 0) Q) :
    aX9_init_20 d p0 m Q := jWp_snd [(4, [true]), (13, [true]), (20, [true]), (25, [true]), (30, [true]), (35, [true]), (40, [true]), (45, [false])] jcX9_init 4 rfl h
set_option maxRecDepth 100000 in
theorem gX9_init_25 (d : Nat) (p0 : Int) (m : jM) (Q : Int → jM → Prop)
    (h : aX9_init_30 d p0 (jUp m p0 3 (-1)) Q) :
    aX9_init_25 d p0 m Q := jWp_snd [(4, [true]), (13, [true]), (20, [true]), (25, [true]), (30, [true]), (35, [true]), (40, [true]), (45, [false])] jcX9_init 4 rfl h
set_option maxRecDepth 100000 in
theorem gX9_init_30 (d : Nat) (p0 : Int) (m : jM) (Q : Int → jM → Prop)
    (h : aX9_init_35 d p0 (jUp m p0 4 0) Q) :
    aX9_init_30 d p0 m Q := jWp_snd [(4, [true]), (13, [true]), (20, [true]), (25, [true]), (30, [true]), (35, [true]), (40, [true]), (45, [false])] jcX9_init 4 rfl h
set_option maxRecDepth 100000 in
theorem gX9_init_35 (d : Nat) (p0 : Int) (m : jM) (Q : Int → jM → Prop)
    (h : aX9_init_40 d p0 (jUp m p0 5 (-1)) Q) :
    aX9_init_35 d p0 m Q := jWp_snd [(4, [true]), (13, [true]), (20, [true]), (25, [true]), (30, [true]), (35, [true]), (40, [true]), (45, [false])] jcX9_init 4 rfl h
set_option maxRecDepth 100000 in
theorem gX9_init_40 (d : Nat) (p0 : Int) (m : jM) (Q : Int → jM → Prop)
    (h : aX9_init_45 d  (jUp m p0 6 (-1)) Q) :
    aX9_init_40 d p0 m Q := jWp_snd [(4, [true]), (13, [true]), (20, [true]), (25, [true]), (30, [true]), (35, [true]), (40, [true]), (45, [false])] jcX9_init 4 rfl h
set_option maxRecDepth 100000 in
theorem gX9_init_45 (d : Nat) (m : jM) (Q : Int → jM → Prop)
    (h : m (-3) 0 = m (-2) (-7) ∧ Q 0 m) :
    aX9_init_45 d  m Q := jWp_snd [(4, [true]), (13, [true]), (20, [true]), (25, [true]), (30, [true]), (35, [true]), (40, [true]), (45, [false])] jcX9_init 2 rfl h
set_option maxRecDepth 100000 in
theorem gX9_burdenOf (d : Nat) (x2 : Int) (m : jM) (Q : Int → jM → Prop)
    (h : ((0 : Int) ≤ x2 ∧ (x2 : Int) < 64) ∧ ((m 3 x2) = (-1) → jK d zX9_read [jO 9 51, jO 0 1, jI 0, jI x2, jI 0] m (fun v1 m1 => (v1 = (-4611686018427387904) → Q (-4611686018427387904) m1) ∧ (¬ v1 = (-4611686018427387904) → jK d zJ9_max_f86c9 [jL v1, jL 0] m1 (fun v2 m2 => Q v2 m2)))) ∧ (¬ (m 3 x2) = (-1) → ((0 : Int) ≤ x2 ∧ (x2 : Int) < 64) ∧ Q (m 3 x2) m)) :
    jK (d + 1) zX9_burdenOf [jO 9 51, jO 0 1, jI x2] m Q := jWp_sn0 [] jcX9_burdenOf 21 rfl h
set_option maxRecDepth 100000 in
theorem gX9_tellBy (d : Nat) (x2 x3 : Int) (m : jM) (Q : Int → jM → Prop)
    (h : jK d zX9_read [jO 9 51, jO 0 1, jI x2, jI x3, jI 0] m (fun v1 m1 => Q v1 m1)) :
    jK (d + 1) zX9_tellBy [jO 9 51, jO 0 1, jI x2, jI x3] m Q := jWp_sn0 [] jcX9_tellBy 8 rfl h
def aX9_read_51 (d : Nat) (x3 x4 p5 x6 x7 x8 x9 : Int) (m : jM) (Q : Int → jM → Prop) : Prop := jA (d + 1) zX9_read 51 [some (jO 9 51), some (jO 0 1), none, some (jI x3), some (jI x4), some (jO 6 p5), some (jI x6), some (jI x7), some (jI x8), some (jI x9), none, none, none, none, none] [] m Q
def aX9_read_312 (d : Nat) (x4 x12 x13 : Int) (m : jM) (Q : Int → jM → Prop) : Prop := jA (d + 1) zX9_read 312 [some (jO 9 51), none, none, none, some (jI x4), none, none, none, none, none, none, none, some (jI x12), some (jL x13), none] [] m Q
set_option maxRecDepth 100000 in
theorem gX9_read (d : Nat) (x2 x3 x4 : Int) (m : jM) (Q : Int → jM → Prop)
    (h : (x4 < 4 → ((0 : Int) ≤ x4 ∧ (x4 : Int) < 4) ∧ ((0 : Int) ≤ x2 ∧ (x2 : Int) < 4) ∧ ((0 : Int) ≤ (w32 (x4 * 40)) ∧ ((w32 (x4 * 40)) : Int) < 160) ∧ aX9_read_51 d x3 x4 ((jUp m 53 x4 x2) 5 x2) (w32 (x4 * 40)) (w32 (x4 * 40)) 0 0 (jUp (jUp m 53 x4 x2) 52 (w32 (x4 * 40)) 0) Q) ∧ (¬ x4 < 4 → Q (-4611686018427387904) m)) :
    jK (d + 1) zX9_read [jO 9 51, jO 0 1, jI x2, jI x3, jI x4] m Q := jWp_sn0 [(51, [true, true, false, true, true, true, true, true, true, true, false, false, false, false, false]), (312, [true, false, false, false, true, false, false, false, false, false, false, false, true, true, false])] jcX9_read 29 rfl h
set_option maxRecDepth 100000 in
theorem gX9_read_51 (d : Nat) (x3 x4 p5 x6 x7 x8 x9 : Int) (m : jM) (Q : Int → jM → Prop)
    (h : (x9 < (m p5 1) → (x8 < (m p5 1) → ((0 : Int) ≤ x8 ∧ (x8 : Int) < 40) ∧ ((0 : Int) ≤ x8 ∧ (x8 : Int) < 40) ∧ ((0 : Int) ≤ x8 ∧ (x8 : Int) < 40) ∧ (4 < (m (p5 + 1) x8) → ((m (p5 + 1) x8) = 15 → aX9_read_51 d x3 x4 p5 x6 x7 (m (p5 + 2) x8) (w32 (x9 + 1)) m Q) ∧ (¬ (m (p5 + 1) x8) = 15 → ((m (p5 + 1) x8) = 5 → ((0 : Int) ≤ (w32 (x7 - 1)) ∧ ((w32 (x7 - 1)) : Int) < 160) ∧ ((0 : Int) ≤ (w32 (x7 - 1)) ∧ ((w32 (x7 - 1)) : Int) < 160) ∧ aX9_read_51 d x3 x4 p5 x6 x7 (w32 (x8 + 1)) (w32 (x9 + 1)) (jUp m 52 (w32 (x7 - 1)) (w64 (-(m 52 (w32 (x7 - 1)))))) Q) ∧ (¬ (m (p5 + 1) x8) = 5 → ((m (p5 + 1) x8) = 6 → ((0 : Int) ≤ (w32 (x7 - 1)) ∧ ((w32 (x7 - 1)) : Int) < 160) ∧ jK d zJ9_abs_067f4 [jL (m 52 (w32 (x7 - 1)))] m (fun v1 m1 => ((0 : Int) ≤ (w32 (x7 - 1)) ∧ ((w32 (x7 - 1)) : Int) < 160) ∧ aX9_read_51 d x3 x4 p5 x6 x7 (w32 (x8 + 1)) (w32 (x9 + 1)) (jUp m1 52 (w32 (x7 - 1)) v1) Q)) ∧ (¬ (m (p5 + 1) x8) = 6 → ((m (p5 + 1) x8) = 14 → ((0 : Int) ≤ (w32 (x7 + (-2))) ∧ ((w32 (x7 + (-2))) : Int) < 160) ∧ ((0 : Int) ≤ (w32 ((w32 (x7 + (-2))) + 1)) ∧ ((w32 ((w32 (x7 + (-2))) + 1)) : Int) < 160) ∧ ((m 52 (w32 (x7 + (-2)))) < (m 52 (w32 ((w32 (x7 + (-2))) + 1))) → aX9_read_51 d x3 x4 p5 x6 (w32 (x7 + (-2))) (w32 (x8 + 1)) (w32 (x9 + 1)) m Q) ∧ (¬ (m 52 (w32 (x7 + (-2)))) < (m 52 (w32 ((w32 (x7 + (-2))) + 1))) → aX9_read_51 d x3 x4 p5 x6 (w32 (x7 + (-2))) (m (p5 + 2) x8) (w32 (x9 + 1)) m Q)) ∧ (¬ (m (p5 + 1) x8) = 14 → ((0 : Int) ≤ (w32 ((w32 (x7 + (-1))) - 1)) ∧ ((w32 ((w32 (x7 + (-1))) - 1)) : Int) < 160) ∧ ((0 : Int) ≤ (w32 (x7 + (-1))) ∧ ((w32 (x7 + (-1))) : Int) < 160) ∧ jK d zX9_join [jI (m (p5 + 1) x8), jL (m 52 (w32 ((w32 (x7 + (-1))) - 1))), jL (m 52 (w32 (x7 + (-1))))] m (fun v2 m2 => (v2 < (-1000000000) → aX9_read_312 d x4 (m (p5 + 3) x8) v2 m2 Q) ∧ (¬ v2 < (-1000000000) → (1000000000 < v2 → aX9_read_312 d x4 (m (p5 + 3) x8) v2 m2 Q) ∧ (¬ 1000000000 < v2 → ((0 : Int) ≤ (w32 ((w32 (x7 + (-1))) - 1)) ∧ ((w32 ((w32 (x7 + (-1))) - 1)) : Int) < 160) ∧ aX9_read_51 d x3 x4 p5 x6 (w32 (x7 + (-1))) (w32 (x8 + 1)) (w32 (x9 + 1)) (jUp m2 52 (w32 ((w32 (x7 + (-1))) - 1)) v2) Q)))))))) ∧ (¬ 4 < (m (p5 + 1) x8) → jK d zX9_operand [jO 9 51, jO 0 1, jI (m (p5 + 1) x8), jI (m (p5 + 2) x8), jI x3, jI x4] m (fun v3 m3 => ((0 : Int) ≤ x7 ∧ (x7 : Int) < 160) ∧ ((0 : Int) ≤ x7 ∧ (x7 : Int) < 160) ∧ (((jUp m3 52 x7 v3) 52 x7) = (-4611686018427387904) → Q (-4611686018427387904) (jUp m3 52 x7 v3)) ∧ (¬ ((jUp m3 52 x7 v3) 52 x7) = (-4611686018427387904) → aX9_read_51 d x3 x4 p5 x6 (w32 (x7 + 1)) (w32 (x8 + 1)) (w32 (x9 + 1)) (jUp m3 52 x7 v3) Q)))) ∧ (¬ x8 < (m p5 1) → ((0 : Int) ≤ x6 ∧ (x6 : Int) < 160) ∧ Q (m 52 x6) m)) ∧ (¬ x9 < (m p5 1) → ((0 : Int) ≤ x6 ∧ (x6 : Int) < 160) ∧ Q (m 52 x6) m)) :
    aX9_read_51 d x3 x4 p5 x6 x7 x8 x9 m Q := jWp_snd [(51, [true, true, false, true, true, true, true, true, true, true, false, false, false, false, false]), (312, [true, false, false, false, true, false, false, false, false, false, false, false, true, true, false])] jcX9_read 69 rfl h
set_option maxRecDepth 100000 in
theorem gX9_read_312 (d : Nat) (x4 x12 x13 : Int) (m : jM) (Q : Int → jM → Prop)
    (h : (x13 = (-4611686018427387904) → jK d zX9_fail [jO 9 51, jI 1, jI x12, jI x4] m (fun v1 m1 => Q v1 m1)) ∧ (¬ x13 = (-4611686018427387904) → jK d zX9_fail [jO 9 51, jI 2, jI x12, jI x4] m (fun v2 m2 => Q v2 m2))) :
    aX9_read_312 d x4 x12 x13 m Q := jWp_snd [(51, [true, true, false, true, true, true, true, true, true, true, false, false, false, false, false]), (312, [true, false, false, false, true, false, false, false, false, false, false, false, true, true, false])] jcX9_read 11 rfl h
set_option maxRecDepth 100000 in
theorem gX9_operand (d : Nat) (x2 x3 x4 x5 : Int) (m : jM) (Q : Int → jM → Prop)
    (h : (x2 = 4 → jK d zX9_read [jO 9 51, jO 0 1, jI x3, jI x4, jI (w32 (x5 + 1))] m (fun v1 m1 => Q v1 m1)) ∧ (¬ x2 = 4 → (x2 = 1 → Q x3 m) ∧ (¬ x2 = 1 → (x2 = 2 → (8 : Int) ≠ 0 ∧ ((0 : Int) ≤ (w32 ((w32 ((iDiv x4 8) * 3)) + x3)) ∧ ((w32 ((w32 ((iDiv x4 8) * 3)) + x3)) : Int) < 48) ∧ Q (m 2 (w32 ((w32 ((iDiv x4 8) * 3)) + x3))) m) ∧ (¬ x2 = 2 → (8 : Int) ≠ 0 ∧ ((0 : Int) ≤ (w32 ((w32 ((w32 (8 + (iRem x4 8))) * 3)) + x3)) ∧ ((w32 ((w32 ((w32 (8 + (iRem x4 8))) * 3)) + x3)) : Int) < 48) ∧ Q (m 2 (w32 ((w32 ((w32 (8 + (iRem x4 8))) * 3)) + x3))) m)))) :
    jK (d + 1) zX9_operand [jO 9 51, jO 0 1, jI x2, jI x3, jI x4, jI x5] m Q := jWp_sn0 [] jcX9_operand 26 rfl h
set_option maxRecDepth 100000 in
theorem gX9_join (d : Nat) (x0 x1 x3 : Int) (m : jM) (Q : Int → jM → Prop)
    (h : (x0 = 7 + 0 → Q (w64 (x1 + x3)) m) ∧ (x0 = 7 + 1 → Q (w64 (x1 - x3)) m) ∧ (x0 = 7 + 2 → Q (w64 (x1 * x3)) m) ∧ (x0 = 7 + 3 → jK d zJ9_min_f86c9 [jL x1, jL x3] m (fun v1 m1 => Q v1 m1)) ∧ (x0 = 7 + 4 → jK d zJ9_max_f86c9 [jL x1, jL x3] m (fun v2 m2 => Q v2 m2)) ∧ (x0 < 7 ∨ 11 < x0 → (x3 = 0 → Q (-4611686018427387904) m) ∧ (¬ x3 = 0 → (x0 = 12 → jK d zJ9_floorDiv_f86c9 [jL x1, jL x3] m (fun v3 m3 => Q v3 m3)) ∧ (¬ x0 = 12 → jK d zJ9_floorMod_f86c9 [jL x1, jL x3] m (fun v4 m4 => Q v4 m4)))) ∧ True) :
    jK (d + 1) zX9_join [jI x0, jL x1, jL x3] m Q := jWp_sn0 [] jcX9_join 14 rfl h
set_option maxRecDepth 100000 in
theorem gX9_fail (d : Nat) (x1 x2 x3 : Int) (m : jM) (Q : Int → jM → Prop)
    (h : ((0 : Int) ≤ x3 ∧ (x3 : Int) < 4) ∧ (0 < x3 → ((0 : Int) ≤ (w32 (x3 - 1)) ∧ ((w32 (x3 - 1)) : Int) < 4) ∧ Q (-4611686018427387904) (jUp (jUp (jUp (jUp (jUp m 51 2 x1) 51 3 x2) 51 4 (w32 (x3 + 1))) 51 5 ((jUp (jUp (jUp m 51 2 x1) 51 3 x2) 51 4 (w32 (x3 + 1))) 53 x3)) 51 6 ((jUp (jUp (jUp (jUp m 51 2 x1) 51 3 x2) 51 4 (w32 (x3 + 1))) 51 5 ((jUp (jUp (jUp m 51 2 x1) 51 3 x2) 51 4 (w32 (x3 + 1))) 53 x3)) 53 (w32 (x3 - 1))))) ∧ (¬ 0 < x3 → Q (-4611686018427387904) (jUp (jUp (jUp (jUp (jUp m 51 2 x1) 51 3 x2) 51 4 (w32 (x3 + 1))) 51 5 ((jUp (jUp (jUp m 51 2 x1) 51 3 x2) 51 4 (w32 (x3 + 1))) 53 x3)) 51 6 (-1)))) :
    jK (d + 1) zX9_fail [jO 9 51, jI x1, jI x2, jI x3] m Q := jWp_sn0 [] jcX9_fail 31 rfl h
def aX10_init_4 (d : Nat) (p0 : Int) (m : jM) (Q : Int → jM → Prop) : Prop := jA (d + 1) zX10_init 4 [some (jO 10 p0), none] [] m Q
def aX10_init_15 (d : Nat) (p0 : Int) (m : jM) (Q : Int → jM → Prop) : Prop := jA (d + 1) zX10_init 15 [some (jO 10 p0), none] [] m Q
def aX10_init_26 (d : Nat) (p0 : Int) (m : jM) (Q : Int → jM → Prop) : Prop := jA (d + 1) zX10_init 26 [some (jO 10 p0), none] [] m Q
def aX10_init_31 (d : Nat) (p0 : Int) (m : jM) (Q : Int → jM → Prop) : Prop := jA (d + 1) zX10_init 31 [some (jO 10 p0), none] [] m Q
def aX10_init_42 (d : Nat) (p0 : Int) (m : jM) (Q : Int → jM → Prop) : Prop := jA (d + 1) zX10_init 42 [some (jO 10 p0), none] [] m Q
def aX10_init_53 (d : Nat) (p0 : Int) (m : jM) (Q : Int → jM → Prop) : Prop := jA (d + 1) zX10_init 53 [some (jO 10 p0), none] [] m Q
def aX10_init_64 (d : Nat) (p0 : Int) (m : jM) (Q : Int → jM → Prop) : Prop := jA (d + 1) zX10_init 64 [some (jO 10 p0), none] [] m Q
def aX10_init_75 (d : Nat) (p0 : Int) (m : jM) (Q : Int → jM → Prop) : Prop := jA (d + 1) zX10_init 75 [some (jO 10 p0), none] [] m Q
def aX10_init_86 (d : Nat) (p0 : Int) (m : jM) (Q : Int → jM → Prop) : Prop := jA (d + 1) zX10_init 86 [some (jO 10 p0), none] [] m Q
def aX10_init_97 (d : Nat) (p0 : Int) (m : jM) (Q : Int → jM → Prop) : Prop := jA (d + 1) zX10_init 97 [some (jO 10 p0), none] [] m Q
def aX10_init_108 (d : Nat) (p0 : Int) (m : jM) (Q : Int → jM → Prop) : Prop := jA (d + 1) zX10_init 108 [some (jO 10 p0), none] [] m Q
def aX10_init_119 (d : Nat) (p0 : Int) (m : jM) (Q : Int → jM → Prop) : Prop := jA (d + 1) zX10_init 119 [some (jO 10 p0), none] [] m Q
def aX10_init_127 (d : Nat) (p0 : Int) (m : jM) (Q : Int → jM → Prop) : Prop := jA (d + 1) zX10_init 127 [some (jO 10 p0), none] [] m Q
def aX10_init_132 (d : Nat) (p0 : Int) (m : jM) (Q : Int → jM → Prop) : Prop := jA (d + 1) zX10_init 132 [some (jO 10 p0), none] [] m Q
def aX10_init_137 (d : Nat) (p0 : Int) (m : jM) (Q : Int → jM → Prop) : Prop := jA (d + 1) zX10_init 137 [some (jO 10 p0), none] [] m Q
def aX10_init_142 (d : Nat) (p0 : Int) (m : jM) (Q : Int → jM → Prop) : Prop := jA (d + 1) zX10_init 142 [some (jO 10 p0), none] [] m Q
def aX10_init_147 (d : Nat) (p0 : Int) (m : jM) (Q : Int → jM → Prop) : Prop := jA (d + 1) zX10_init 147 [some (jO 10 p0), none] [] m Q
def aX10_init_155 (d : Nat) (p0 : Int) (m : jM) (Q : Int → jM → Prop) : Prop := jA (d + 1) zX10_init 155 [some (jO 10 p0), none] [] m Q
def aX10_init_157 (d : Nat) (p0 x1 : Int) (m : jM) (Q : Int → jM → Prop) : Prop := jA (d + 1) zX10_init 157 [some (jO 10 p0), some (jI x1)] [] m Q
def aX10_init_162 (d : Nat) (p0 x1 : Int) (m : jM) (Q : Int → jM → Prop) : Prop := jA (d + 1) zX10_init 162 [some (jO 10 p0), some (jI x1)] [] m Q
def aX10_init_175 (d : Nat) (p0 x1 : Int) (m : jM) (Q : Int → jM → Prop) : Prop := jA (d + 1) zX10_init 175 [some (jO 10 p0), some (jI x1)] [] m Q
def aX10_init_178 (d : Nat) (p0 x1 : Int) (m : jM) (Q : Int → jM → Prop) : Prop := jA (d + 1) zX10_init 178 [some (jO 10 p0), some (jI x1)] [] m Q
def aX10_init_181 (d : Nat) (m : jM) (Q : Int → jM → Prop) : Prop := jA (d + 1) zX10_init 181 [none, none] [] m Q
set_option maxRecDepth 100000 in
theorem gX10_init (d : Nat) (p0 : Int) (m : jM) (Q : Int → jM → Prop)
    (h : aX10_init_4 d p0 m Q) :
    jK (d + 1) zX10_init [jO 10 p0] m Q := jWp_sn0 [(4, [true, false]), (15, [true, false]), (26, [true, false]), (31, [true, false]), (42, [true, false]), (53, [true, false]), (64, [true, false]), (75, [true, false]), (86, [true, false]), (97, [true, false]), (108, [true, false]), (119, [true, false]), (127, [true, false]), (132, [true, false]), (137, [true, false]), (142, [true, false]), (147, [true, false]), (155, [true, false]), (157, [true, true]), (162, [true, true]), (175, [true, true]), (178, [true, true]), (181, [false, false])] jcX10_init 3 rfl h
set_option maxRecDepth 100000 in
theorem gX10_init_4 (d : Nat) (p0 : Int) (m : jM) (Q : Int → jM → Prop)
    (h : (m (-3) 0 < m (-2) (-7) ∧ jKd (m (-3) 0) = 0) ∧ (jNw m) (-3) 0 + 21 ≤ (jNw m) (-2) (-7) ∧ jK d zX0_init [jO 0 (m (-3) 0)] (jLim (jNw m) zX0_init) (fun v1 m1 => (m (-3) 0) = (p0 + 1) ∧ aX10_init_15 d p0 (jUp (jUp m1 (-2) (-7) ((jNw m) (-2) (-7))) p0 0 (m (-3) 0)) Q)) :
    aX10_init_4 d p0 m Q := jWp_snd [(4, [true, false]), (15, [true, false]), (26, [true, false]), (31, [true, false]), (42, [true, false]), (53, [true, false]), (64, [true, false]), (75, [true, false]), (86, [true, false]), (97, [true, false]), (108, [true, false]), (119, [true, false]), (127, [true, false]), (132, [true, false]), (137, [true, false]), (142, [true, false]), (147, [true, false]), (155, [true, false]), (157, [true, true]), (162, [true, true]), (175, [true, true]), (178, [true, true]), (181, [false, false])] jcX10_init 6 rfl h
set_option maxRecDepth 100000 in
theorem gX10_init_15 (d : Nat) (p0 : Int) (m : jM) (Q : Int → jM → Prop)
    (h : (m (-3) 0 < m (-2) (-7) ∧ jKd (m (-3) 0) = 0) ∧ (jNw m) (-3) 0 + 21 ≤ (jNw m) (-2) (-7) ∧ jK d zX0_init [jO 0 (m (-3) 0)] (jLim (jNw m) zX0_init) (fun v1 m1 => (m (-3) 0) = (p0 + 23) ∧ aX10_init_26 d p0 (jUp (jUp m1 (-2) (-7) ((jNw m) (-2) (-7))) p0 1 (m (-3) 0)) Q)) :
    aX10_init_15 d p0 m Q := jWp_snd [(4, [true, false]), (15, [true, false]), (26, [true, false]), (31, [true, false]), (42, [true, false]), (53, [true, false]), (64, [true, false]), (75, [true, false]), (86, [true, false]), (97, [true, false]), (108, [true, false]), (119, [true, false]), (127, [true, false]), (132, [true, false]), (137, [true, false]), (142, [true, false]), (147, [true, false]), (155, [true, false]), (157, [true, true]), (162, [true, true]), (175, [true, true]), (178, [true, true]), (181, [false, false])] jcX10_init 6 rfl h
set_option maxRecDepth 100000 in
theorem gX10_init_26 (d : Nat) (p0 : Int) (m : jM) (Q : Int → jM → Prop)
    (h : aX10_init_31 d p0 (jUp m p0 2 0) Q) :
    aX10_init_26 d p0 m Q := jWp_snd [(4, [true, false]), (15, [true, false]), (26, [true, false]), (31, [true, false]), (42, [true, false]), (53, [true, false]), (64, [true, false]), (75, [true, false]), (86, [true, false]), (97, [true, false]), (108, [true, false]), (119, [true, false]), (127, [true, false]), (132, [true, false]), (137, [true, false]), (142, [true, false]), (147, [true, false]), (155, [true, false]), (157, [true, true]), (162, [true, true]), (175, [true, true]), (178, [true, true]), (181, [false, false])] jcX10_init 4 rfl h
set_option maxRecDepth 100000 in
theorem gX10_init_31 (d : Nat) (p0 : Int) (m : jM) (Q : Int → jM → Prop)
    (h : (m (-3) 0 < m (-2) (-7) ∧ jKd (m (-3) 0) = 8) ∧ (jNw m) (-3) 0 + 5 ≤ (jNw m) (-2) (-7) ∧ jK d zX8_init [jO 8 (m (-3) 0)] (jLim (jNw m) zX8_init) (fun v1 m1 => (m (-3) 0) = (p0 + 45) ∧ aX10_init_42 d p0 (jUp (jUp m1 (-2) (-7) ((jNw m) (-2) (-7))) p0 3 (m (-3) 0)) Q)) :
    aX10_init_31 d p0 m Q := jWp_snd [(4, [true, false]), (15, [true, false]), (26, [true, false]), (31, [true, false]), (42, [true, false]), (53, [true, false]), (64, [true, false]), (75, [true, false]), (86, [true, false]), (97, [true, false]), (108, [true, false]), (119, [true, false]), (127, [true, false]), (132, [true, false]), (137, [true, false]), (142, [true, false]), (147, [true, false]), (155, [true, false]), (157, [true, true]), (162, [true, true]), (175, [true, true]), (178, [true, true]), (181, [false, false])] jcX10_init 6 rfl h
set_option maxRecDepth 100000 in
theorem gX10_init_42 (d : Nat) (p0 : Int) (m : jM) (Q : Int → jM → Prop)
    (h : (m (-3) 0 < m (-2) (-7) ∧ jKd (m (-3) 0) = 9) ∧ (jNw m) (-3) 0 + 2 ≤ (jNw m) (-2) (-7) ∧ jK d zX9_init [jO 9 (m (-3) 0)] (jLim (jNw m) zX9_init) (fun v1 m1 => (m (-3) 0) = (p0 + 51) ∧ aX10_init_53 d p0 (jUp (jUp m1 (-2) (-7) ((jNw m) (-2) (-7))) p0 4 (m (-3) 0)) Q)) :
    aX10_init_42 d p0 m Q := jWp_snd [(4, [true, false]), (15, [true, false]), (26, [true, false]), (31, [true, false]), (42, [true, false]), (53, [true, false]), (64, [true, false]), (75, [true, false]), (86, [true, false]), (97, [true, false]), (108, [true, false]), (119, [true, false]), (127, [true, false]), (132, [true, false]), (137, [true, false]), (142, [true, false]), (147, [true, false]), (155, [true, false]), (157, [true, true]), (162, [true, true]), (175, [true, true]), (178, [true, true]), (181, [false, false])] jcX10_init 6 rfl h
set_option maxRecDepth 100000 in
theorem gX10_init_53 (d : Nat) (p0 : Int) (m : jM) (Q : Int → jM → Prop)
    (h : (m (-3) 0 < m (-2) (-7) ∧ jKd (m (-3) 0) = 4) ∧ (jNw m) (-3) 0 + 7 ≤ (jNw m) (-2) (-7) ∧ jK d zX4_init [jO 4 (m (-3) 0)] (jLim (jNw m) zX4_init) (fun v1 m1 => (m (-3) 0) = (p0 + 54) ∧ aX10_init_64 d p0 (jUp (jUp m1 (-2) (-7) ((jNw m) (-2) (-7))) p0 5 (m (-3) 0)) Q)) :
    aX10_init_53 d p0 m Q := jWp_snd [(4, [true, false]), (15, [true, false]), (26, [true, false]), (31, [true, false]), (42, [true, false]), (53, [true, false]), (64, [true, false]), (75, [true, false]), (86, [true, false]), (97, [true, false]), (108, [true, false]), (119, [true, false]), (127, [true, false]), (132, [true, false]), (137, [true, false]), (142, [true, false]), (147, [true, false]), (155, [true, false]), (157, [true, true]), (162, [true, true]), (175, [true, true]), (178, [true, true]), (181, [false, false])] jcX10_init 6 rfl h
set_option maxRecDepth 100000 in
theorem gX10_init_64 (d : Nat) (p0 : Int) (m : jM) (Q : Int → jM → Prop)
    (h : (m (-3) 0 < m (-2) (-7) ∧ jKd (m (-3) 0) = 4) ∧ (jNw m) (-3) 0 + 7 ≤ (jNw m) (-2) (-7) ∧ jK d zX4_init [jO 4 (m (-3) 0)] (jLim (jNw m) zX4_init) (fun v1 m1 => (m (-3) 0) = (p0 + 62) ∧ aX10_init_75 d p0 (jUp (jUp m1 (-2) (-7) ((jNw m) (-2) (-7))) p0 6 (m (-3) 0)) Q)) :
    aX10_init_64 d p0 m Q := jWp_snd [(4, [true, false]), (15, [true, false]), (26, [true, false]), (31, [true, false]), (42, [true, false]), (53, [true, false]), (64, [true, false]), (75, [true, false]), (86, [true, false]), (97, [true, false]), (108, [true, false]), (119, [true, false]), (127, [true, false]), (132, [true, false]), (137, [true, false]), (142, [true, false]), (147, [true, false]), (155, [true, false]), (157, [true, true]), (162, [true, true]), (175, [true, true]), (178, [true, true]), (181, [false, false])] jcX10_init 6 rfl h
set_option maxRecDepth 100000 in
theorem gX10_init_75 (d : Nat) (p0 : Int) (m : jM) (Q : Int → jM → Prop)
    (h : (m (-3) 0 < m (-2) (-7) ∧ jKd (m (-3) 0) = 2) ∧ (jNw m) (-3) 0 + 4 ≤ (jNw m) (-2) (-7) ∧ jK d zX2_init [jO 2 (m (-3) 0)] (jLim (jNw m) zX2_init) (fun v1 m1 => (m (-3) 0) = (p0 + 70) ∧ aX10_init_86 d p0 (jUp (jUp m1 (-2) (-7) ((jNw m) (-2) (-7))) p0 7 (m (-3) 0)) Q)) :
    aX10_init_75 d p0 m Q := jWp_snd [(4, [true, false]), (15, [true, false]), (26, [true, false]), (31, [true, false]), (42, [true, false]), (53, [true, false]), (64, [true, false]), (75, [true, false]), (86, [true, false]), (97, [true, false]), (108, [true, false]), (119, [true, false]), (127, [true, false]), (132, [true, false]), (137, [true, false]), (142, [true, false]), (147, [true, false]), (155, [true, false]), (157, [true, true]), (162, [true, true]), (175, [true, true]), (178, [true, true]), (181, [false, false])] jcX10_init 6 rfl h
set_option maxRecDepth 100000 in
theorem gX10_init_86 (d : Nat) (p0 : Int) (m : jM) (Q : Int → jM → Prop)
    (h : (m (-3) 0 < m (-2) (-7) ∧ jKd (m (-3) 0) = 5) ∧ (jNw m) (-3) 0 + 5 ≤ (jNw m) (-2) (-7) ∧ jK d zX5_init [jO 5 (m (-3) 0)] (jLim (jNw m) zX5_init) (fun v1 m1 => (m (-3) 0) = (p0 + 75) ∧ aX10_init_97 d p0 (jUp (jUp m1 (-2) (-7) ((jNw m) (-2) (-7))) p0 8 (m (-3) 0)) Q)) :
    aX10_init_86 d p0 m Q := jWp_snd [(4, [true, false]), (15, [true, false]), (26, [true, false]), (31, [true, false]), (42, [true, false]), (53, [true, false]), (64, [true, false]), (75, [true, false]), (86, [true, false]), (97, [true, false]), (108, [true, false]), (119, [true, false]), (127, [true, false]), (132, [true, false]), (137, [true, false]), (142, [true, false]), (147, [true, false]), (155, [true, false]), (157, [true, true]), (162, [true, true]), (175, [true, true]), (178, [true, true]), (181, [false, false])] jcX10_init 6 rfl h
set_option maxRecDepth 100000 in
theorem gX10_init_97 (d : Nat) (p0 : Int) (m : jM) (Q : Int → jM → Prop)
    (h : (m (-3) 0 < m (-2) (-7) ∧ jKd (m (-3) 0) = 3) ∧ (jNw m) (-3) 0 + 6 ≤ (jNw m) (-2) (-7) ∧ jK d zX3_init [jO 3 (m (-3) 0)] (jLim (jNw m) zX3_init) (fun v1 m1 => (m (-3) 0) = (p0 + 81) ∧ aX10_init_108 d p0 (jUp (jUp m1 (-2) (-7) ((jNw m) (-2) (-7))) p0 9 (m (-3) 0)) Q)) :
    aX10_init_97 d p0 m Q := jWp_snd [(4, [true, false]), (15, [true, false]), (26, [true, false]), (31, [true, false]), (42, [true, false]), (53, [true, false]), (64, [true, false]), (75, [true, false]), (86, [true, false]), (97, [true, false]), (108, [true, false]), (119, [true, false]), (127, [true, false]), (132, [true, false]), (137, [true, false]), (142, [true, false]), (147, [true, false]), (155, [true, false]), (157, [true, true]), (162, [true, true]), (175, [true, true]), (178, [true, true]), (181, [false, false])] jcX10_init 6 rfl h
set_option maxRecDepth 100000 in
theorem gX10_init_108 (d : Nat) (p0 : Int) (m : jM) (Q : Int → jM → Prop)
    (h : (m (-3) 0 < m (-2) (-7) ∧ jKd (m (-3) 0) = 1) ∧ (jNw m) (-3) 0 + 4 ≤ (jNw m) (-2) (-7) ∧ jK d zX1_init [jO 1 (m (-3) 0)] (jLim (jNw m) zX1_init) (fun v1 m1 => (m (-3) 0) = (p0 + 88) ∧ aX10_init_119 d p0 (jUp (jUp m1 (-2) (-7) ((jNw m) (-2) (-7))) p0 10 (m (-3) 0)) Q)) :
    aX10_init_108 d p0 m Q := jWp_snd [(4, [true, false]), (15, [true, false]), (26, [true, false]), (31, [true, false]), (42, [true, false]), (53, [true, false]), (64, [true, false]), (75, [true, false]), (86, [true, false]), (97, [true, false]), (108, [true, false]), (119, [true, false]), (127, [true, false]), (132, [true, false]), (137, [true, false]), (142, [true, false]), (147, [true, false]), (155, [true, false]), (157, [true, true]), (162, [true, true]), (175, [true, true]), (178, [true, true]), (181, [false, false])] jcX10_init 6 rfl h
set_option maxRecDepth 100000 in
theorem gX10_init_119 (d : Nat) (p0 : Int) (m : jM) (Q : Int → jM → Prop)
    (h : (m (-3) 0 < m (-2) (-7) ∧ jKd (m (-3) 0) = 20 ∧ jLn (m (-3) 0) = 8) ∧ (m (-3) 0) = (p0 + 93) ∧ aX10_init_127 d p0 (jUp (jNw m) p0 11 (m (-3) 0)) Q) :
    aX10_init_119 d p0 m Q := jWp_snd [(4, [true, false]), (15, [true, false]), (26, [true, false]), (31, [true, false]), (42, [true, false]), (53, [true, false]), (64, [true, false]), (75, [true, false]), (86, [true, false]), (97, [true, false]), (108, [true, false]), (119, [true, false]), (127, [true, false]), (132, [true, false]), (137, [true, false]), (142, [true, false]), (147, [true, false]), (155, [true, false]), (157, [true, true]), (162, [true, true]), (175, [true, true]), (178, [true, true]), (181, [false, false])] jcX10_init 5 rfl h
set_option maxRecDepth 100000 in
theorem gX10_init_127 (d : Nat) (p0 : Int) (m : jM) (Q : Int → jM → Prop)
    (h : aX10_init_132 d p0 (jUp m p0 12 0) Q) :
    aX10_init_127 d p0 m Q := jWp_snd [(4, [true, false]), (15, [true, false]), (26, [true, false]), (31, [true, false]), (42, [true, false]), (53, [true, false]), (64, [true, false]), (75, [true, false]), (86, [true, false]), (97, [true, false]), (108, [true, false]), (119, [true, false]), (127, [true, false]), (132, [true, false]), (137, [true, false]), (142, [true, false]), (147, [true, false]), (155, [true, false]), (157, [true, true]), (162, [true, true]), (175, [true, true]), (178, [true, true]), (181, [false, false])] jcX10_init 4 rfl h
set_option maxRecDepth 100000 in
theorem gX10_init_132 (d : Nat) (p0 : Int) (m : jM) (Q : Int → jM → Prop)
    (h : aX10_init_137 d p0 (jUp m p0 13 0) Q) :
    aX10_init_132 d p0 m Q := jWp_snd [(4, [true, false]), (15, [true, false]), (26, [true, false]), (31, [true, false]), (42, [true, false]), (53, [true, false]), (64, [true, false]), (75, [true, false]), (86, [true, false]), (97, [true, false]), (108, [true, false]), (119, [true, false]), (127, [true, false]), (132, [true, false]), (137, [true, false]), (142, [true, false]), (147, [true, false]), (155, [true, false]), (157, [true, true]), (162, [true, true]), (175, [true, true]), (178, [true, true]), (181, [false, false])] jcX10_init 4 rfl h
set_option maxRecDepth 100000 in
theorem gX10_init_137 (d : Nat) (p0 : Int) (m : jM) (Q : Int → jM → Prop)
    (h : aX10_init_142 d p0 (jUp m p0 14 0) Q) :
    aX10_init_137 d p0 m Q := jWp_snd [(4, [true, false]), (15, [true, false]), (26, [true, false]), (31, [true, false]), (42, [true, false]), (53, [true, false]), (64, [true, false]), (75, [true, false]), (86, [true, false]), (97, [true, false]), (108, [true, false]), (119, [true, false]), (127, [true, false]), (132, [true, false]), (137, [true, false]), (142, [true, false]), (147, [true, false]), (155, [true, false]), (157, [true, true]), (162, [true, true]), (175, [true, true]), (178, [true, true]), (181, [false, false])] jcX10_init 4 rfl h
set_option maxRecDepth 100000 in
theorem gX10_init_142 (d : Nat) (p0 : Int) (m : jM) (Q : Int → jM → Prop)
    (h : aX10_init_147 d p0 (jUp m p0 15 0) Q) :
    aX10_init_142 d p0 m Q := jWp_snd [(4, [true, false]), (15, [true, false]), (26, [true, false]), (31, [true, false]), (42, [true, false]), (53, [true, false]), (64, [true, false]), (75, [true, false]), (86, [true, false]), (97, [true, false]), (108, [true, false]), (119, [true, false]), (127, [true, false]), (132, [true, false]), (137, [true, false]), (142, [true, false]), (147, [true, false]), (155, [true, false]), (157, [true, true]), (162, [true, true]), (175, [true, true]), (178, [true, true]), (181, [false, false])] jcX10_init 4 rfl h
set_option maxRecDepth 100000 in
theorem gX10_init_147 (d : Nat) (p0 : Int) (m : jM) (Q : Int → jM → Prop)
    (h : (m (-3) 0 < m (-2) (-7) ∧ jKd (m (-3) 0) = 23 ∧ jLn (m (-3) 0) = 4) ∧ (m (-3) 0) = (p0 + 94) ∧ aX10_init_155 d p0 (jUp (jNw m) p0 16 (m (-3) 0)) Q) :
    aX10_init_147 d p0 m Q := jWp_snd [(4, [true, false]), (15, [true, false]), (26, [true, false]), (31, [true, false]), (42, [true, false]), (53, [true, false]), (64, [true, false]), (75, [true, false]), (86, [true, false]), (97, [true, false]), (108, [true, false]), (119, [true, false]), (127, [true, false]), (132, [true, false]), (137, [true, false]), (142, [true, false]), (147, [true, false]), (155, [true, false]), (157, [true, true]), (162, [true, true]), (175, [true, true]), (178, [true, true]), (181, [false, false])] jcX10_init 5 rfl h
set_option maxRecDepth 100000 in
theorem gX10_init_155 (d : Nat) (p0 : Int) (m : jM) (Q : Int → jM → Prop)
    (h : aX10_init_157 d p0 0 m Q) :
    aX10_init_155 d p0 m Q := jWp_snd [(4, [true, false]), (15, [true, false]), (26, [true, false]), (31, [true, false]), (42, [true, false]), (53, [true, false]), (64, [true, false]), (75, [true, false]), (86, [true, false]), (97, [true, false]), (108, [true, false]), (119, [true, false]), (127, [true, false]), (132, [true, false]), (137, [true, false]), (142, [true, false]), (147, [true, false]), (155, [true, false]), (157, [true, true]), (162, [true, true]), (175, [true, true]), (178, [true, true]), (181, [false, false])] jcX10_init 3 rfl h
set_option maxRecDepth 100000 in
theorem gX10_init_157 (d : Nat) (p0 x1 : Int) (m : jM) (Q : Int → jM → Prop)
    (h : (x1 < 4 → aX10_init_162 d p0 x1 m Q) ∧ (¬ x1 < 4 → aX10_init_181 d  m Q)) :
    aX10_init_157 d p0 x1 m Q := jWp_snd [(4, [true, false]), (15, [true, false]), (26, [true, false]), (31, [true, false]), (42, [true, false]), (53, [true, false]), (64, [true, false]), (75, [true, false]), (86, [true, false]), (97, [true, false]), (108, [true, false]), (119, [true, false]), (127, [true, false]), (132, [true, false]), (137, [true, false]), (142, [true, false]), (147, [true, false]), (155, [true, false]), (157, [true, true]), (162, [true, true]), (175, [true, true]), (178, [true, true]), (181, [false, false])] jcX10_init 4 rfl h
set_option maxRecDepth 100000 in
theorem gX10_init_162 (d : Nat) (p0 x1 : Int) (m : jM) (Q : Int → jM → Prop)
    (h : m p0 16 = (p0 + 94) ∧ (m (-3) 0 < m (-2) (-7) ∧ jKd (m (-3) 0) = 7) ∧ (jNw m) (-3) 0 + 1 ≤ (jNw m) (-2) (-7) ∧ jK d zX7_init [jO 7 (m (-3) 0)] (jLim (jNw m) zX7_init) (fun v1 m1 => ((0 : Int) ≤ x1 ∧ (x1 : Int) < 4) ∧ aX10_init_175 d p0 x1 (jUp (jUp m1 (-2) (-7) ((jNw m) (-2) (-7))) (p0 + 94) x1 (m (-3) 0)) Q)) :
    aX10_init_162 d p0 x1 m Q := jWp_snd [(4, [true, false]), (15, [true, false]), (26, [true, false]), (31, [true, false]), (42, [true, false]), (53, [true, false]), (64, [true, false]), (75, [true, false]), (86, [true, false]), (97, [true, false]), (108, [true, false]), (119, [true, false]), (127, [true, false]), (132, [true, false]), (137, [true, false]), (142, [true, false]), (147, [true, false]), (155, [true, false]), (157, [true, true]), (162, [true, true]), (175, [true, true]), (178, [true, true]), (181, [false, false])] jcX10_init 8 rfl h
set_option maxRecDepth 100000 in
theorem gX10_init_175 (d : Nat) (p0 x1 : Int) (m : jM) (Q : Int → jM → Prop)
    (h : aX10_init_178 d p0 (w32 (x1 + 1)) m Q) :
    aX10_init_175 d p0 x1 m Q := jWp_snd [(4, [true, false]), (15, [true, false]), (26, [true, false]), (31, [true, false]), (42, [true, false]), (53, [true, false]), (64, [true, false]), (75, [true, false]), (86, [true, false]), (97, [true, false]), (108, [true, false]), (119, [true, false]), (127, [true, false]), (132, [true, false]), (137, [true, false]), (142, [true, false]), (147, [true, false]), (155, [true, false]), (157, [true, true]), (162, [true, true]), (175, [true, true]), (178, [true, true]), (181, [false, false])] jcX10_init 2 rfl h
set_option maxRecDepth 100000 in
theorem gX10_init_178 (d : Nat) (p0 x1 : Int) (m : jM) (Q : Int → jM → Prop)
    (h : aX10_init_157 d p0 x1 m Q) :
    aX10_init_178 d p0 x1 m Q := jWp_snd [(4, [true, false]), (15, [true, false]), (26, [true, false]), (31, [true, false]), (42, [true, false]), (53, [true, false]), (64, [true, false]), (75, [true, false]), (86, [true, false]), (97, [true, false]), (108, [true, false]), (119, [true, false]), (127, [true, false]), (132, [true, false]), (137, [true, false]), (142, [true, false]), (147, [true, false]), (155, [true, false]), (157, [true, true]), (162, [true, true]), (175, [true, true]), (178, [true, true]), (181, [false, false])] jcX10_init 2 rfl h
set_option maxRecDepth 100000 in
theorem gX10_init_181 (d : Nat) (m : jM) (Q : Int → jM → Prop)
    (h : m (-3) 0 = m (-2) (-7) ∧ Q 0 m) :
    aX10_init_181 d  m Q := jWp_snd [(4, [true, false]), (15, [true, false]), (26, [true, false]), (31, [true, false]), (42, [true, false]), (53, [true, false]), (64, [true, false]), (75, [true, false]), (86, [true, false]), (97, [true, false]), (108, [true, false]), (119, [true, false]), (127, [true, false]), (132, [true, false]), (137, [true, false]), (142, [true, false]), (147, [true, false]), (155, [true, false]), (157, [true, true]), (162, [true, true]), (175, [true, true]), (178, [true, true]), (181, [false, false])] jcX10_init 2 rfl h
set_option maxRecDepth 100000 in
theorem gX10_here (d : Nat) (x1 x2 x3 : Int) (m : jM) (Q : Int → jM → Prop)
    (h : jK d zX10_isSide [jI x1] m (fun v1 m1 => (v1 = 0 → Q (-2) m1) ∧ (¬ v1 = 0 → jK d zX10_isSeat [jI x2] m1 (fun v2 m2 => (v2 = 0 → Q (-2) m2) ∧ (¬ v2 = 0 → (x3 < 0 → Q (-2) m2) ∧ (¬ x3 < 0 → (1 < x3 → Q (-2) m2) ∧ (¬ 1 < x3 → jK d zX10_changed [jO 10 0] m2 (fun v3 m3 => jK d zX0_seat [jO 0 1, jI x1, jI x2, jI x3] m3 (fun v4 m4 => Q v4 m4))))))))) :
    jK (d + 1) zX10_here [jO 10 0, jI x1, jI x2, jI x3] m Q := jWp_sn0 [] jcX10_here 21 rfl h
set_option maxRecDepth 100000 in
theorem gX10_trait (d : Nat) (x1 x2 x3 x4 : Int) (m : jM) (Q : Int → jM → Prop)
    (h : jK d zX10_isSide [jI x1] m (fun v1 m1 => (v1 = 0 → Q (-2) m1) ∧ (¬ v1 = 0 → jK d zX10_isSeat [jI x2] m1 (fun v2 m2 => (v2 = 0 → Q (-2) m2) ∧ (¬ v2 = 0 → (x3 < 0 → Q (-2) m2) ∧ (¬ x3 < 0 → (x3 < 3 → (x4 < (-999) → Q (-2) m2) ∧ (¬ x4 < (-999) → (999 < x4 → Q (-2) m2) ∧ (¬ 999 < x4 → ((0 : Int) ≤ (w32 ((w32 ((w32 ((w32 (x1 * 8)) + x2)) * 3)) + x3)) ∧ ((w32 ((w32 ((w32 ((w32 (x1 * 8)) + x2)) * 3)) + x3)) : Int) < 48) ∧ ((0 : Int) ≤ (w32 ((w32 ((w32 ((w32 (x1 * 8)) + x2)) * 3)) + x3)) ∧ ((w32 ((w32 ((w32 ((w32 (x1 * 8)) + x2)) * 3)) + x3)) : Int) < 48) ∧ jK d zX10_changed [jO 10 0] (jUp m2 2 (w32 ((w32 ((w32 ((w32 (x1 * 8)) + x2)) * 3)) + x3)) x4) (fun v3 m3 => Q (m2 2 (w32 ((w32 ((w32 ((w32 (x1 * 8)) + x2)) * 3)) + x3))) m3)))) ∧ (¬ x3 < 3 → Q (-2) m2))))))) :
    jK (d + 1) zX10_trait [jO 10 0, jI x1, jI x2, jI x3, jI x4] m Q := jWp_sn0 [] jcX10_trait 44 rfl h
set_option maxRecDepth 100000 in
theorem gX10_tell (d : Nat) (x1 x2 x3 : Int) (m : jM) (Q : Int → jM → Prop)
    (h : jK d zX10_isPair [jI x1, jI x2] m (fun v1 m1 => (v1 = 0 → Q (-2) m1) ∧ (¬ v1 = 0 → (x3 < (-1) → Q (-2) m1) ∧ (¬ x3 < (-1) → (1000000000 < x3 → Q (-2) m1) ∧ (¬ 1000000000 < x3 → ((0 : Int) ≤ (w32 ((w32 (x1 * 8)) + x2)) ∧ ((w32 ((w32 (x1 * 8)) + x2)) : Int) < 64) ∧ jK d zX10_changed [jO 10 0] (jUp m1 3 (w32 ((w32 (x1 * 8)) + x2)) x3) (fun v2 m2 => jK d zX10_refreshPlan [jO 10 0] m2 (fun v3 m3 => ((0 : Int) ≤ 0 ∧ (0 : Int) < 256) ∧ Q (m3 58 0) m3))))))) :
    jK (d + 1) zX10_tell [jO 10 0, jI x1, jI x2, jL x3] m Q := jWp_sn0 [] jcX10_tell 31 rfl h
set_option maxRecDepth 100000 in
theorem gX10_burden (d : Nat) (x1 x2 : Int) (m : jM) (Q : Int → jM → Prop)
    (h : jK d zX10_isPair [jI x1, jI x2] m (fun v1 m1 => (v1 = 0 → Q (-4611686018427387904) m1) ∧ (¬ v1 = 0 → jK d zX9_burdenOf [jO 9 51, jO 0 1, jI (w32 ((w32 (x1 * 8)) + x2))] m1 (fun v2 m2 => Q v2 m2)))) :
    jK (d + 1) zX10_burden [jO 10 0, jI x1, jI x2] m Q := jWp_sn0 [] jcX10_burden 16 rfl h
def aX10_mark_48 (d : Nat) (x3 x4 : Int) (m : jM) (Q : Int → jM → Prop) : Prop := jA (d + 1) zX10_mark 48 [some (jO 10 0), none, none, some (jI x3), some (jI x4), none] [] m Q
set_option maxRecDepth 100000 in
theorem gX10_mark (d : Nat) (x1 x2 x3 : Int) (m : jM) (Q : Int → jM → Prop)
    (h : jK d zX10_isPair [jI x1, jI x2] m (fun v1 m1 => (v1 = 0 → Q (-2) m1) ∧ (¬ v1 = 0 → (x3 < 0 → Q (-2) m1) ∧ (¬ x3 < 0 → (2 < x3 → Q (-2) m1) ∧ (¬ 2 < x3 → (x3 = 2 → jK d zX0_forcedBeside [jO 0 1, jI (w32 ((w32 (x1 * 8)) + x2))] m1 (fun v2 m2 => (v2 = 0 → aX10_mark_48 d x3 (w32 ((w32 (x1 * 8)) + x2)) m2 Q) ∧ (¬ v2 = 0 → Q (-3) m2))) ∧ (¬ x3 = 2 → aX10_mark_48 d x3 (w32 ((w32 (x1 * 8)) + x2)) m1 Q)))))) :
    jK (d + 1) zX10_mark [jO 10 0, jI x1, jI x2, jI x3] m Q := jWp_sn0 [(48, [true, false, false, true, true, false])] jcX10_mark 26 rfl h
set_option maxRecDepth 100000 in
theorem gX10_mark_48 (d : Nat) (x3 x4 : Int) (m : jM) (Q : Int → jM → Prop)
    (h : ((0 : Int) ≤ x4 ∧ (x4 : Int) < 64) ∧ ((0 : Int) ≤ x4 ∧ (x4 : Int) < 64) ∧ jK d zX10_changed [jO 10 0] (jUp m 4 x4 x3) (fun v1 m1 => Q (m 4 x4) m1)) :
    aX10_mark_48 d x3 x4 m Q := jWp_snd [(48, [true, false, false, true, true, false])] jcX10_mark 17 rfl h
set_option maxRecDepth 100000 in
theorem gX10_open (d : Nat) (x1 x2 : Int) (m : jM) (Q : Int → jM → Prop)
    (h : jK d zX10_isPair [jI x1, jI x2] m (fun v1 m1 => (v1 = 0 → Q (-2) m1) ∧ (¬ v1 = 0 → jK d zX10_refreshPlan [jO 10 0] m1 (fun v2 m2 => jK d zX4_isOpen [jO 4 54, jI x1, jI x2] m2 (fun v3 m3 => (v3 = 0 → Q 0 m3) ∧ (¬ v3 = 0 → Q 1 m3)))))) :
    jK (d + 1) zX10_open [jO 10 0, jI x1, jI x2] m Q := jWp_sn0 [] jcX10_open 16 rfl h
set_option maxRecDepth 100000 in
theorem gX10_feed (d : Nat) (x1 : Int) (m : jM) (Q : Int → jM → Prop)
    (h : (x1 < 0 → Q (-2) m) ∧ (¬ x1 < 0 → (255 < x1 → Q (-2) m) ∧ (¬ 255 < x1 → jK d zX8_add [jO 8 45, jI x1] m (fun v1 m1 => (v1 = 0 → Q (-4) m1) ∧ (¬ v1 = 0 → Q (m1 45 1) m1))))) :
    jK (d + 1) zX10_feed [jO 10 0, jI x1] m Q := jWp_sn0 [] jcX10_feed 16 rfl h
set_option maxRecDepth 100000 in
theorem gX10_text (d : Nat) (x1 : Int) (m : jM) (Q : Int → jM → Prop)
    (h : jK d zX10_isRule [jI x1] m (fun v1 m1 => (v1 = 0 → Q (-2) m1) ∧ (¬ v1 = 0 → jK d zX8_parse [jO 8 45] m1 (fun v2 m2 => (v2 = (-1) → ((0 : Int) ≤ x1 ∧ (x1 : Int) < 4) ∧ ((0 : Int) ≤ x1 ∧ (x1 : Int) < 4) ∧ jK d zX0_refusalOf [jO 0 1, jI x1] (jUp (jUp m2 45 1 0) 5 x1 ((jUp m2 45 1 0) 45 2)) (fun v3 m3 => (v3 = 0 → jK d zX10_changed [jO 10 0] (jUp m3 45 2 ((jUp m2 45 1 0) 5 x1)) (fun v4 m4 => ((0 : Int) ≤ x1 ∧ (x1 : Int) < 4) ∧ Q (m4 (m4 5 x1) 0) m4)) ∧ (¬ v3 = 0 → ((0 : Int) ≤ x1 ∧ (x1 : Int) < 4) ∧ Q v3 (jUp m3 5 x1 ((jUp m2 45 1 0) 5 x1))))) ∧ (¬ v2 = (-1) → Q (w32 ((-100) - v2)) (jUp m2 45 1 0)))))) :
    jK (d + 1) zX10_text [jO 10 0, jI x1] m Q := jWp_sn0 [] jcX10_text 49 rfl h
set_option maxRecDepth 100000 in
theorem gX10_empty (d : Nat) (x1 : Int) (m : jM) (Q : Int → jM → Prop)
    (h : jK d zX10_isRule [jI x1] m (fun v1 m1 => (v1 = 0 → Q (-2) m1) ∧ (¬ v1 = 0 → ((0 : Int) ≤ x1 ∧ (x1 : Int) < 4) ∧ ((0 : Int) ≤ x1 ∧ (x1 : Int) < 4) ∧ jK d zX6_clear [jO 6 (m1 5 x1)] m1 (fun v2 m2 => jK d zX10_changed [jO 10 0] m2 (fun v3 m3 => Q (m1 (m1 5 x1) 0) m3))))) :
    jK (d + 1) zX10_empty [jO 10 0, jI x1] m Q := jWp_sn0 [] jcX10_empty 21 rfl h
set_option maxRecDepth 100000 in
theorem gX10_told (d : Nat) (x1 x2 : Int) (m : jM) (Q : Int → jM → Prop)
    (h : jK d zX10_isRule [jI x1] m (fun v1 m1 => (v1 = 0 → Q (-2) m1) ∧ (¬ v1 = 0 → (x2 = 0 + 0 → ((0 : Int) ≤ x1 ∧ (x1 : Int) < 4) ∧ Q (m1 (m1 5 x1) 0) m1) ∧ (x2 = 0 + 1 → jK d zX0_weighRules [jO 0 1] m1 (fun v2 m2 => ((0 : Int) ≤ x1 ∧ (x1 : Int) < 4) ∧ Q (m2 6 x1) m2)) ∧ (x2 = 0 + 2 → ((0 : Int) ≤ x1 ∧ (x1 : Int) < 4) ∧ jK d zX6_names [jO 6 (m1 5 x1)] m1 (fun v3 m3 => Q v3 m3)) ∧ (x2 = 0 + 3 → jK d zX0_namersOf [jO 0 1, jI x1] m1 (fun v4 m4 => Q v4 m4)) ∧ (x2 = 0 + 4 → jK d zX0_reachOf [jO 0 1, jI x1] m1 (fun v5 m5 => Q v5 m5)) ∧ (x2 < 0 ∨ 4 < x2 → Q (-2) m1) ∧ True))) :
    jK (d + 1) zX10_told [jO 10 0, jI x1, jI x2] m Q := jWp_sn0 [] jcX10_told 15 rfl h
set_option maxRecDepth 100000 in
theorem gX10_value (d : Nat) (x1 x2 x3 : Int) (m : jM) (Q : Int → jM → Prop)
    (h : jK d zX10_isRule [jI x1] m (fun v1 m1 => (v1 = 0 → Q (-4611686018427387904) m1) ∧ (¬ v1 = 0 → jK d zX10_isPair [jI x2, jI x3] m1 (fun v2 m2 => (v2 = 0 → Q (-4611686018427387904) m2) ∧ (¬ v2 = 0 → jK d zX9_tellBy [jO 9 51, jO 0 1, jI x1, jI (w32 ((w32 (x2 * 8)) + x3))] m2 (fun v3 m3 => Q v3 m3)))))) :
    jK (d + 1) zX10_value [jO 10 0, jI x1, jI x2, jI x3] m Q := jWp_sn0 [] jcX10_value 20 rfl h
set_option maxRecDepth 100000 in
theorem gX10_why (d : Nat) (x1 x2 x3 : Int) (m : jM) (Q : Int → jM → Prop)
    (h : jK d zX10_isPair [jI x1, jI x2] m (fun v1 m1 => (v1 = 0 → Q (-2) m1) ∧ (¬ v1 = 0 → (x3 < 0 → Q (-2) m1) ∧ (¬ x3 < 0 → (4 < x3 → Q (-2) m1) ∧ (¬ 4 < x3 → jK d zX9_tellBy [jO 9 51, jO 0 1, jI 0, jI (w32 ((w32 (x1 * 8)) + x2))] m1 (fun v2 m2 => (v2 = (-4611686018427387904) → ((1 : Int) = 0 → (x3 = 0 → Q 0 m2) ∧ (¬ x3 = 0 → Q (-1) m2)) ∧ (¬ (1 : Int) = 0 → (x3 = 0 + 0 → Q (m2 51 2) m2) ∧ (x3 = 0 + 1 → Q (m2 51 3) m2) ∧ (x3 = 0 + 2 → Q (m2 51 4) m2) ∧ (x3 = 0 + 3 → Q (m2 51 5) m2) ∧ (x3 < 0 ∨ 3 < x3 → Q (m2 51 6) m2) ∧ True)) ∧ (¬ v2 = (-4611686018427387904) → ((0 : Int) = 0 → (x3 = 0 → Q 0 m2) ∧ (¬ x3 = 0 → Q (-1) m2)) ∧ (¬ (0 : Int) = 0 → (x3 = 0 + 0 → Q (m2 51 2) m2) ∧ (x3 = 0 + 1 → Q (m2 51 3) m2) ∧ (x3 = 0 + 2 → Q (m2 51 4) m2) ∧ (x3 = 0 + 3 → Q (m2 51 5) m2) ∧ (x3 < 0 ∨ 3 < x3 → Q (m2 51 6) m2) ∧ True)))))))) :
    jK (d + 1) zX10_why [jO 10 0, jI x1, jI x2, jI x3] m Q := jWp_sn0 [] jcX10_why 34 rfl h
set_option maxRecDepth 100000 in
theorem gX10_solve (d : Nat) (m : jM) (Q : Int → jM → Prop)
    (h : jK d zX10_refreshPlan [jO 10 0] m (fun v1 m1 => jK d zX5_make [jO 5 75, jO 4 54, jO 2 70] m1 (fun v2 m2 => Q (m2 75 0) m2))) :
    jK (d + 1) zX10_solve [jO 10 0] m Q := jWp_sn0 [] jcX10_solve 14 rfl h
set_option maxRecDepth 100000 in
theorem gX10_round (d : Nat) (x1 x2 : Int) (m : jM) (Q : Int → jM → Prop)
    (h : (x2 < 0 → Q (-4611686018427387904) m) ∧ (¬ x2 < 0 → (x2 < 6 → (x1 < 0 → Q (-4611686018427387904) m) ∧ (¬ x1 < 0 → (x1 < (m 75 0) → ((0 : Int) ≤ (w32 ((w32 (x1 * 6)) + x2)) ∧ ((w32 ((w32 (x1 * 6)) + x2)) : Int) < 384) ∧ Q (m 76 (w32 ((w32 (x1 * 6)) + x2))) m) ∧ (¬ x1 < (m 75 0) → Q (-4611686018427387904) m))) ∧ (¬ x2 < 6 → Q (-4611686018427387904) m))) :
    jK (d + 1) zX10_round [jO 10 0, jI x1, jI x2] m Q := jWp_sn0 [] jcX10_round 23 rfl h
set_option maxRecDepth 100000 in
theorem gX10_price (d : Nat) (x1 x2 x3 : Int) (m : jM) (Q : Int → jM → Prop)
    (h : jK d zX10_isSide [jI x2] m (fun v1 m1 => (v1 = 0 → Q (-4611686018427387904) m1) ∧ (¬ v1 = 0 → jK d zX10_isSeat [jI x3] m1 (fun v2 m2 => (v2 = 0 → Q (-4611686018427387904) m2) ∧ (¬ v2 = 0 → (x1 < 0 → Q (-4611686018427387904) m2) ∧ (¬ x1 < 0 → (x1 < (m2 75 0) → ((0 : Int) ≤ (w32 ((w32 ((w32 ((w32 (x1 * 2)) + x2)) * 8)) + x3)) ∧ ((w32 ((w32 ((w32 ((w32 (x1 * 2)) + x2)) * 8)) + x3)) : Int) < 1024) ∧ Q (m2 77 (w32 ((w32 ((w32 ((w32 (x1 * 2)) + x2)) * 8)) + x3))) m2) ∧ (¬ x1 < (m2 75 0) → Q (-4611686018427387904) m2))))))) :
    jK (d + 1) zX10_price [jO 10 0, jI x1, jI x2, jI x3] m Q := jWp_sn0 [] jcX10_price 28 rfl h
set_option maxRecDepth 100000 in
theorem gX10_total (d : Nat) (m : jM) (Q : Int → jM → Prop)
    (h : jK d zX10_refreshPlan [jO 10 0] m (fun v1 m1 => ((0 : Int) ≤ 0 ∧ (0 : Int) < 256) ∧ Q (m1 58 0) m1)) :
    jK (d + 1) zX10_total [jO 10 0] m Q := jWp_sn0 [] jcX10_total 9 rfl h
set_option maxRecDepth 100000 in
theorem gX10_many (d : Nat) (m : jM) (Q : Int → jM → Prop)
    (h : jK d zX10_refreshPlan [jO 10 0] m (fun v1 m1 => ((0 : Int) ≤ 0 ∧ (0 : Int) < 256) ∧ Q (m1 59 0) m1)) :
    jK (d + 1) zX10_many [jO 10 0] m Q := jWp_sn0 [] jcX10_many 9 rfl h
set_option maxRecDepth 100000 in
theorem gX10_best (d : Nat) (x1 x2 : Int) (m : jM) (Q : Int → jM → Prop)
    (h : jK d zX10_isSeat [jI x2] m (fun v1 m1 => (v1 = 0 → Q (-2) m1) ∧ (¬ v1 = 0 → jK d zX10_refreshPlan [jO 10 0] m1 (fun v2 m2 => (x1 < 0 → Q (-3) m2) ∧ (¬ x1 < 0 → ((0 : Int) ≤ 0 ∧ (0 : Int) < 256) ∧ (x1 < (m2 59 0) → jK d zX4_pick [jO 4 54, jI x1, jY 0 8 93] m2 (fun v3 m3 => ((0 : Int) ≤ x2 ∧ (x2 : Int) < 8) ∧ Q (m3 93 x2) m3)) ∧ (¬ x1 < (m2 59 0) → Q (-3) m2)))))) :
    jK (d + 1) zX10_best [jO 10 0, jI x1, jI x2] m Q := jWp_sn0 [] jcX10_best 26 rfl h
set_option maxRecDepth 100000 in
theorem gX10_kind (d : Nat) (x1 x2 : Int) (m : jM) (Q : Int → jM → Prop)
    (h : jK d zX10_isPair [jI x1, jI x2] m (fun v1 m1 => (v1 = 0 → Q (-2) m1) ∧ (¬ v1 = 0 → jK d zX10_refreshShares [jO 10 0] m1 (fun v2 m2 => ((0 : Int) ≤ 0 ∧ (0 : Int) < 256) ∧ ((m2 59 0) = 0 → Q (-3) m2) ∧ (¬ (m2 59 0) = 0 → ((0 : Int) ≤ (w32 ((w32 (x1 * 8)) + x2)) ∧ ((w32 ((w32 (x1 * 8)) + x2)) : Int) < 64) ∧ ((m2 61 (w32 ((w32 (x1 * 8)) + x2))) = 0 → Q 0 m2) ∧ (¬ (m2 61 (w32 ((w32 (x1 * 8)) + x2))) = 0 → ((m2 61 (w32 ((w32 (x1 * 8)) + x2))) = (m2 59 0) → Q 2 m2) ∧ (¬ (m2 61 (w32 ((w32 (x1 * 8)) + x2))) = (m2 59 0) → Q 1 m2))))))) :
    jK (d + 1) zX10_kind [jO 10 0, jI x1, jI x2] m Q := jWp_sn0 [] jcX10_kind 33 rfl h
def aX10_room_45 (d : Nat) (x1 x2 x3 : Int) (m : jM) (Q : Int → jM → Prop) : Prop := jA (d + 1) zX10_room 45 [some (jO 10 0), some (jI x1), some (jI x2), some (jI x3), none] [] m Q
set_option maxRecDepth 100000 in
theorem gX10_room (d : Nat) (x1 x2 x3 : Int) (m : jM) (Q : Int → jM → Prop)
    (h : jK d zX10_isPair [jI x1, jI x2] m (fun v1 m1 => (v1 = 0 → Q (-4611686018427387904) m1) ∧ (¬ v1 = 0 → (x3 < 0 → Q (-4611686018427387904) m1) ∧ (¬ x3 < 0 → (1 < x3 → Q (-4611686018427387904) m1) ∧ (¬ 1 < x3 → jK d zX10_refreshPlan [jO 10 0] m1 (fun v2 m2 => (x3 = 0 → jK d zX4_isOpen [jO 4 54, jI x1, jI x2] m2 (fun v3 m3 => (v3 = 0 → Q (-4611686018427387904) m3) ∧ (¬ v3 = 0 → aX10_room_45 d x1 x2 x3 m3 Q))) ∧ (¬ x3 = 0 → aX10_room_45 d x1 x2 x3 m2 Q))))))) :
    jK (d + 1) zX10_room [jO 10 0, jI x1, jI x2, jI x3] m Q := jWp_sn0 [(45, [true, true, true, true, false])] jcX10_room 22 rfl h
set_option maxRecDepth 100000 in
theorem gX10_room_45 (d : Nat) (x1 x2 x3 : Int) (m : jM) (Q : Int → jM → Prop)
    (h : jK d zX4_take [jO 4 62, jO 4 54] m (fun v1 m1 => (x3 = 0 → ((0 : Int) ≤ x2 ∧ (x2 : Int) < 8) ∧ jK d zX4_weigh [jO 4 62, jI 0] (jUp m1 65 x2 (iShl 1 x1)) (fun v2 m2 => ((0 : Int) ≤ 0 ∧ (0 : Int) < 256) ∧ Q (m2 66 0) m2)) ∧ (¬ x3 = 0 → ((0 : Int) ≤ x2 ∧ (x2 : Int) < 8) ∧ ((0 : Int) ≤ x2 ∧ (x2 : Int) < 8) ∧ jK d zX4_weigh [jO 4 62, jI 0] (jUp m1 65 x2 (iAnd (m1 65 x2) (iXor (iShl 1 x1) (-1)))) (fun v3 m3 => ((0 : Int) ≤ 0 ∧ (0 : Int) < 256) ∧ Q (m3 66 0) m3)))) :
    aX10_room_45 d x1 x2 x3 m Q := jWp_snd [(45, [true, true, true, true, false])] jcX10_room 33 rfl h
set_option maxRecDepth 100000 in
theorem gX10_next (d : Nat) (x1 x2 : Int) (m : jM) (Q : Int → jM → Prop)
    (h : (x1 < 0 → Q (-4611686018427387904) m) ∧ (¬ x1 < 0 → (x1 < 12 → (x2 < (-1) → Q (-4611686018427387904) m) ∧ (¬ x2 < (-1) → (x2 < 8 → jK d zX10_refreshNextOnes [jO 10 0] m (fun v1 m1 => (x1 < (m1 81 0) → (x2 = (-1) → ((0 : Int) ≤ x1 ∧ (x1 : Int) < 12) ∧ Q (m1 82 x1) m1) ∧ (¬ x2 = (-1) → ((0 : Int) ≤ (w32 ((w32 (x1 * 8)) + x2)) ∧ ((w32 ((w32 (x1 * 8)) + x2)) : Int) < 96) ∧ Q (m1 83 (w32 ((w32 (x1 * 8)) + x2))) m1)) ∧ (¬ x1 < (m1 81 0) → Q (-4611686018427387904) m1))) ∧ (¬ x2 < 8 → Q (-4611686018427387904) m))) ∧ (¬ x1 < 12 → Q (-4611686018427387904) m))) :
    jK (d + 1) zX10_next [jO 10 0, jI x1, jI x2] m Q := jWp_sn0 [] jcX10_next 33 rfl h
set_option maxRecDepth 100000 in
theorem gX10_fair (d : Nat) (x1 : Int) (m : jM) (Q : Int → jM → Prop)
    (h : (x1 < 0 → Q (-4611686018427387904) m) ∧ (¬ x1 < 0 → (2 < x1 → Q (-4611686018427387904) m) ∧ (¬ 2 < x1 → jK d zX10_refreshPlan [jO 10 0] m (fun v1 m1 => jK d zX4_take [jO 4 62, jO 4 54] m1 (fun v2 m2 => jK d zX4_weigh [jO 4 62, jI 1] m2 (fun v3 m3 => ((0 : Int) ≤ 0 ∧ (0 : Int) < 256) ∧ ((m3 66 0) = (-4611686018427387904) → Q (m3 66 0) m3) ∧ (¬ (m3 66 0) = (-4611686018427387904) → (x1 = 0 → Q (m3 66 0) m3) ∧ (¬ x1 = 0 → (x1 = 2 → jK d zX4_heavierThan [jO 4 54, jL (m3 66 0)] m3 (fun v4 m4 => Q v4 m4)) ∧ (¬ x1 = 2 → jK d zX4_closeHeavier [jO 4 62, jL (m3 66 0)] m3 (fun v5 m5 => jK d zX4_weigh [jO 4 62, jI 0] m5 (fun v6 m6 => ((0 : Int) ≤ 0 ∧ (0 : Int) < 256) ∧ Q (m6 66 0) m6))))))))))) :
    jK (d + 1) zX10_fair [jO 10 0, jI x1] m Q := jWp_sn0 [] jcX10_fair 45 rfl h
def aX10_days_39 (d : Nat) (x1 x2 x4 : Int) (m : jM) (Q : Int → jM → Prop) : Prop := jA (d + 1) zX10_days 39 [some (jO 10 0), some (jI x1), some (jL x2), none, some (jI x4)] [] m Q
set_option maxRecDepth 100000 in
theorem gX10_days (d : Nat) (x1 : Int) (m : jM) (Q : Int → jM → Prop)
    (h : (x1 < 1 → Q (-4611686018427387904) m) ∧ (¬ x1 < 1 → (8 < x1 → Q (-4611686018427387904) m) ∧ (¬ 8 < x1 → jK d zX10_refreshDiary [jO 10 0] m (fun v1 m1 => ((m1 88 0) < x1 → Q (-4611686018427387904) m1) ∧ (¬ (m1 88 0) < x1 → aX10_days_39 d x1 0 0 m1 Q))))) :
    jK (d + 1) zX10_days [jO 10 0, jI x1] m Q := jWp_sn0 [(39, [true, true, true, false, true])] jcX10_days 18 rfl h
set_option maxRecDepth 100000 in
theorem gX10_days_39 (d : Nat) (x1 x2 x4 : Int) (m : jM) (Q : Int → jM → Prop)
    (h : (x4 < x1 → ((0 : Int) ≤ x4 ∧ (x4 : Int) < 8) ∧ aX10_days_39 d x1 (w64 (x2 + (m 89 x4))) (w32 (x4 + 1)) m Q) ∧ (¬ x4 < x1 → Q x2 m)) :
    aX10_days_39 d x1 x2 x4 m Q := jWp_snd [(39, [true, true, true, false, true])] jcX10_days 14 rfl h
set_option maxRecDepth 100000 in
theorem gX10_day (d : Nat) (x1 x2 : Int) (m : jM) (Q : Int → jM → Prop)
    (h : (x1 < 0 → Q (-2) m) ∧ (¬ x1 < 0 → (x1 < 8 → jK d zX10_isSeat [jI x2] m (fun v1 m1 => (v1 = 0 → Q (-2) m1) ∧ (¬ v1 = 0 → jK d zX10_refreshDiary [jO 10 0] m1 (fun v2 m2 => (x1 < (m2 88 0) → ((0 : Int) ≤ (w32 ((w32 (x1 * 8)) + x2)) ∧ ((w32 ((w32 (x1 * 8)) + x2)) : Int) < 64) ∧ Q (m2 90 (w32 ((w32 (x1 * 8)) + x2))) m2) ∧ (¬ x1 < (m2 88 0) → Q (-3) m2))))) ∧ (¬ x1 < 8 → Q (-2) m))) :
    jK (d + 1) zX10_day [jO 10 0, jI x1, jI x2] m Q := jWp_sn0 [] jcX10_day 26 rfl h
set_option maxRecDepth 100000 in
theorem gX10_lack (d : Nat) (x1 : Int) (m : jM) (Q : Int → jM → Prop)
    (h : (x1 < 0 → Q (-2) m) ∧ (¬ x1 < 0 → (2 < x1 → Q (-2) m) ∧ (¬ 2 < x1 → jK d zX10_refreshPlan [jO 10 0] m (fun v1 m1 => jK d zX2_find [jO 2 70, jY 0 8 57, jI (m1 54 0)] m1 (fun v2 m2 => (x1 = 0 → Q (w32 ((m2 54 1) - (m2 70 0))) m2) ∧ (¬ x1 = 0 → (x1 = 1 → Q (m2 70 1) m2) ∧ (¬ x1 = 1 → Q (m2 70 2) m2))))))) :
    jK (d + 1) zX10_lack [jO 10 0, jI x1] m Q := jWp_sn0 [] jcX10_lack 27 rfl h
set_option maxRecDepth 100000 in
theorem gX10_without (d : Nat) (x1 x2 : Int) (m : jM) (Q : Int → jM → Prop)
    (h : jK d zX10_isSide [jI x1] m (fun v1 m1 => (v1 = 0 → Q (-4611686018427387904) m1) ∧ (¬ v1 = 0 → jK d zX10_isSeat [jI x2] m1 (fun v2 m2 => (v2 = 0 → Q (-4611686018427387904) m2) ∧ (¬ v2 = 0 → jK d zX10_refreshPlan [jO 10 0] m2 (fun v3 m3 => jK d zX4_take [jO 4 62, jO 4 54] m3 (fun v4 m4 => (x1 = 0 → jK d zX4_closeJudge [jO 4 62, jI x2] m4 (fun v5 m5 => jK d zX4_weigh [jO 4 62, jI 0] m5 (fun v6 m6 => ((0 : Int) ≤ 0 ∧ (0 : Int) < 256) ∧ Q (m6 66 0) m6))) ∧ (¬ x1 = 0 → jK d zX4_weigh [jO 4 62, jI 0] (jUp m4 62 0 (iAnd (m4 62 0) (iXor (iShl 1 x2) (-1)))) (fun v7 m7 => ((0 : Int) ≤ 0 ∧ (0 : Int) < 256) ∧ Q (m7 66 0) m7))))))))) :
    jK (d + 1) zX10_without [jO 10 0, jI x1, jI x2] m Q := jWp_sn0 [] jcX10_without 37 rfl h
set_option maxRecDepth 100000 in
theorem gX10_tells (d : Nat) (x1 x2 : Int) (m : jM) (Q : Int → jM → Prop)
    (h : jK d zX10_isSheet [jI x1] m (fun v1 m1 => (v1 = 0 → Q (-2) m1) ∧ (¬ v1 = 0 → (x2 < 0 → Q (-2) m1) ∧ (¬ x2 < 0 → (2 < x2 → Q (-2) m1) ∧ (¬ 2 < x2 → ((0 : Int) ≤ x1 ∧ (x1 : Int) < 4) ∧ ((m1 (m1 94 x1) 0) = (-1) → Q (-11) m1) ∧ (¬ (m1 (m1 94 x1) 0) = (-1) → jK d zX10_refreshPlan [jO 10 0] m1 (fun v2 m2 => ((0 : Int) ≤ x1 ∧ (x1 : Int) < 4) ∧ jK d zX4_follows [jO 4 54, jO 7 (m2 94 x1), jY 0 8 93] m2 (fun v3 m3 => (v3 = 0 → Q (-3) m3) ∧ (¬ v3 = 0 → (x2 = 0 → jK d zX4_sumOf [jO 4 54, jY 0 8 93] m3 (fun v4 m4 => Q v4 m4)) ∧ (¬ x2 = 0 → (x2 = 1 → jK d zX10_refreshNextOnes [jO 10 0] m3 (fun v5 m5 => jK d zX3_placeOf [jO 3 81, jY 0 8 93] m5 (fun v6 m6 => Q v6 m6))) ∧ (¬ x2 = 1 → jK d zX10_refreshShares [jO 10 0] m3 (fun v7 m7 => jK d zX4_sharedOf [jO 4 54, jY 0 8 93] m7 (fun v8 m8 => Q v8 m8))))))))))))) :
    jK (d + 1) zX10_tells [jO 10 0, jI x1, jI x2] m Q := jWp_sn0 [] jcX10_tells 42 rfl h
def aX10_film_68 (d : Nat) (p3 x4 : Int) (m : jM) (Q : Int → jM → Prop) : Prop := jA (d + 1) zX10_film 68 [some (jO 10 0), none, none, some (jO 7 p3), some (jI x4)] [] m Q
set_option maxRecDepth 100000 in
theorem gX10_film (d : Nat) (x1 x2 : Int) (m : jM) (Q : Int → jM → Prop)
    (h : jK d zX10_isSheet [jI x1] m (fun v1 m1 => (v1 = 0 → Q (-2) m1) ∧ (¬ v1 = 0 → jK d zX10_refreshPlan [jO 10 0] m1 (fun v2 m2 => (x2 < 0 → Q (-3) m2) ∧ (¬ x2 < 0 → ((0 : Int) ≤ 0 ∧ (0 : Int) < 256) ∧ (x2 < (m2 59 0) → jK d zX4_pick [jO 4 54, jI x2, jY 0 8 93] m2 (fun v3 m3 => ((0 : Int) ≤ x1 ∧ (x1 : Int) < 4) ∧ jK d zX7_become [jO 7 (m3 94 x1), jI 0, jI (m3 54 1)] m3 (fun v4 m4 => aX10_film_68 d (m3 94 x1) 0 m4 Q))) ∧ (¬ x2 < (m2 59 0) → Q (-3) m2)))))) :
    jK (d + 1) zX10_film [jO 10 0, jI x1, jI x2] m Q := jWp_sn0 [(68, [true, false, false, true, true])] jcX10_film 34 rfl h
set_option maxRecDepth 100000 in
theorem gX10_film_68 (d : Nat) (p3 x4 : Int) (m : jM) (Q : Int → jM → Prop)
    (h : (x4 < (m 54 1) → ((0 : Int) ≤ x4 ∧ (x4 : Int) < 8) ∧ ((0 : Int) ≤ (m 55 x4) ∧ ((m 55 x4) : Int) < 8) ∧ jK d zX7_set [jO 7 p3, jI x4, jL (m 93 (m 55 x4))] m (fun v1 m1 => aX10_film_68 d p3 (w32 (x4 + 1)) m1 Q)) ∧ (¬ x4 < (m 54 1) → Q (m 54 1) m)) :
    aX10_film_68 d p3 x4 m Q := jWp_snd [(68, [true, false, false, true, true])] jcX10_film 20 rfl h
set_option maxRecDepth 100000 in
theorem gX10_image (d : Nat) (m : jM) (Q : Int → jM → Prop)
    (h : jK d zX0_take [jO 0 23, jO 0 1] m (fun v1 m1 => jK d zX10_refreshPlan [jO 10 0] (jUp m1 0 2 1) (fun v2 m2 => jK d zX4_openPairs [jO 4 54] m2 (fun v3 m3 => Q v3 m3)))) :
    jK (d + 1) zX10_image [jO 10 0] m Q := jWp_sn0 [] jcX10_image 15 rfl h
set_option maxRecDepth 100000 in
theorem gX10_back (d : Nat) (m : jM) (Q : Int → jM → Prop)
    (h : ((m 0 2) = 0 → Q (-3) m) ∧ (¬ (m 0 2) = 0 → jK d zX0_take [jO 0 1, jO 0 23] m (fun v1 m1 => jK d zX10_changed [jO 10 0] m1 (fun v2 m2 => jK d zX10_refreshPlan [jO 10 0] m2 (fun v3 m3 => jK d zX4_openPairs [jO 4 54] m3 (fun v4 m4 => Q v4 m4)))))) :
    jK (d + 1) zX10_back [jO 10 0] m Q := jWp_sn0 [] jcX10_back 17 rfl h
set_option maxRecDepth 100000 in
theorem gX10_count (d : Nat) (x1 : Int) (m : jM) (Q : Int → jM → Prop)
    (h : (x1 = 0 + 0 → jK d zJ6_bitCount_0f7a4 [jI (m 1 0)] m (fun v1 m1 => Q v1 m1)) ∧ (x1 = 0 + 1 → jK d zJ6_bitCount_0f7a4 [jI (m 1 1)] m (fun v2 m2 => Q v2 m2)) ∧ (x1 = 0 + 2 → jK d zX10_refreshPlan [jO 10 0] m (fun v3 m3 => jK d zX4_openPairs [jO 4 54] m3 (fun v4 m4 => Q v4 m4))) ∧ (x1 = 0 + 3 → jK d zX0_marked [jO 0 1, jI 2] m (fun v5 m5 => Q v5 m5)) ∧ (x1 = 0 + 4 → jK d zX0_marked [jO 0 1, jI 1] m (fun v6 m6 => Q v6 m6)) ∧ (x1 = 0 + 5 → jK d zX0_owned [jO 0 1] m (fun v7 m7 => Q v7 m7)) ∧ (x1 = 0 + 6 → Q (m 75 0) m) ∧ (x1 = 0 + 7 → Q (m 45 1) m) ∧ (x1 < 0 ∨ 7 < x1 → Q (-2) m) ∧ True) :
    jK (d + 1) zX10_count [jO 10 0, jI x1] m Q := jWp_sn0 [] jcX10_count 9 rfl h
def aX10_sheet_46 (d : Nat) (x1 x2 x3 : Int) (m : jM) (Q : Int → jM → Prop) : Prop := jA (d + 1) zX10_sheet 46 [some (jO 10 0), some (jI x1), some (jI x2), some (jI x3)] [] m Q
set_option maxRecDepth 100000 in
theorem gX10_sheet (d : Nat) (x1 x2 x3 : Int) (m : jM) (Q : Int → jM → Prop)
    (h : jK d zX10_isSheet [jI x1] m (fun v1 m1 => (v1 = 0 → Q (-2) m1) ∧ (¬ v1 = 0 → (x2 < (-1) → Q (-2) m1) ∧ (¬ x2 < (-1) → (2 < x2 → Q (-2) m1) ∧ (¬ 2 < x2 → (x2 = (-1) → (x2 = (-1) → aX10_sheet_46 d x1 x2 x3 m1 Q) ∧ (¬ x2 = (-1) → (x3 < 0 → Q (-14) m1) ∧ (¬ x3 < 0 → aX10_sheet_46 d x1 x2 x3 m1 Q))) ∧ (¬ x2 = (-1) → (40 < x3 → Q (-2) m1) ∧ (¬ 40 < x3 → (x2 = (-1) → aX10_sheet_46 d x1 x2 x3 m1 Q) ∧ (¬ x2 = (-1) → (x3 < 0 → Q (-14) m1) ∧ (¬ x3 < 0 → aX10_sheet_46 d x1 x2 x3 m1 Q))))))))) :
    jK (d + 1) zX10_sheet [jO 10 0, jI x1, jI x2, jI x3] m Q := jWp_sn0 [(46, [true, true, true, true])] jcX10_sheet 23 rfl h
set_option maxRecDepth 100000 in
theorem gX10_sheet_46 (d : Nat) (x1 x2 x3 : Int) (m : jM) (Q : Int → jM → Prop)
    (h : ((0 : Int) ≤ x1 ∧ (x1 : Int) < 4) ∧ (x2 = (-1) → jK d zX7_become [jO 7 (m 94 x1), jI x2, jI 0] m (fun v1 m1 => Q 1 m1)) ∧ (¬ x2 = (-1) → jK d zX7_become [jO 7 (m 94 x1), jI x2, jI x3] m (fun v2 m2 => Q 1 m2))) :
    aX10_sheet_46 d x1 x2 x3 m Q := jWp_snd [(46, [true, true, true, true])] jcX10_sheet 14 rfl h
set_option maxRecDepth 100000 in
theorem gX10_put (d : Nat) (x1 x2 x3 : Int) (m : jM) (Q : Int → jM → Prop)
    (h : jK d zX10_isSheet [jI x1] m (fun v1 m1 => (v1 = 0 → Q (-2) m1) ∧ (¬ v1 = 0 → ((0 : Int) ≤ x1 ∧ (x1 : Int) < 4) ∧ ((m1 (m1 94 x1) 0) = (-1) → Q (-11) m1) ∧ (¬ (m1 (m1 94 x1) 0) = (-1) → jK d zX7_holds [jO 7 (m1 94 x1), jI x2, jI 1] m1 (fun v2 m2 => (v2 = 0 → Q (-12) m2) ∧ (¬ v2 = 0 → jK d zX7_set [jO 7 (m1 94 x1), jI x2, jL x3] m2 (fun v3 m3 => Q 1 m3))))))) :
    jK (d + 1) zX10_put [jO 10 0, jI x1, jI x2, jL x3] m Q := jWp_sn0 [] jcX10_put 24 rfl h
set_option maxRecDepth 100000 in
theorem gX10_item (d : Nat) (x1 x2 : Int) (m : jM) (Q : Int → jM → Prop)
    (h : jK d zX10_isSheet [jI x1] m (fun v1 m1 => (v1 = 0 → Q (-4611686018427387904) m1) ∧ (¬ v1 = 0 → ((0 : Int) ≤ x1 ∧ (x1 : Int) < 4) ∧ ((m1 (m1 94 x1) 0) = (-1) → Q (-4611686018427387904) m1) ∧ (¬ (m1 (m1 94 x1) 0) = (-1) → jK d zX7_holds [jO 7 (m1 94 x1), jI x2, jI 1] m1 (fun v2 m2 => (v2 = 0 → Q (-4611686018427387904) m2) ∧ (¬ v2 = 0 → ((0 : Int) ≤ x2 ∧ (x2 : Int) < 40) ∧ Q (m2 (m1 94 x1 + 1) x2) m2)))))) :
    jK (d + 1) zX10_item [jO 10 0, jI x1, jI x2] m Q := jWp_sn0 [] jcX10_item 24 rfl h
set_option maxRecDepth 100000 in
theorem gX10_copy (d : Nat) (x1 x2 x3 x4 x5 : Int) (m : jM) (Q : Int → jM → Prop)
    (h : jK d zX10_isSheet [jI x1] m (fun v1 m1 => (v1 = 0 → Q (-2) m1) ∧ (¬ v1 = 0 → jK d zX10_isSheet [jI x3] m1 (fun v2 m2 => (v2 = 0 → Q (-2) m2) ∧ (¬ v2 = 0 → ((0 : Int) ≤ x1 ∧ (x1 : Int) < 4) ∧ ((0 : Int) ≤ x3 ∧ (x3 : Int) < 4) ∧ ((m2 (m2 94 x1) 0) = (-1) → Q (-11) m2) ∧ (¬ (m2 (m2 94 x1) 0) = (-1) → ((m2 (m2 94 x3) 0) = (-1) → Q (-11) m2) ∧ (¬ (m2 (m2 94 x3) 0) = (-1) → ((m2 (m2 94 x1) 0) = (m2 (m2 94 x3) 0) → jK d zX7_holds [jO 7 (m2 94 x1), jI x2, jI x5] m2 (fun v3 m3 => (v3 = 0 → Q (-12) m3) ∧ (¬ v3 = 0 → jK d zX7_holds [jO 7 (m2 94 x3), jI x4, jI x5] m3 (fun v4 m4 => (v4 = 0 → Q (-12) m4) ∧ (¬ v4 = 0 → ((0 : Int) ≤ x2 ∧ (0 : Int) ≤ x4 ∧ (0 : Int) ≤ x5 ∧ (x2 : Int) + x5 ≤ 40 ∧ (x4 : Int) + x5 ≤ 40) ∧ Q x5 (jCp m4 (m2 94 x1 + 1) x2 (m2 94 x3 + 1) x4 x5)))))) ∧ (¬ (m2 (m2 94 x1) 0) = (m2 (m2 94 x3) 0) → Q (-13) m2)))))))) :
    jK (d + 1) zX10_copy [jO 10 0, jI x1, jI x2, jI x3, jI x4, jI x5] m Q := jWp_sn0 [] jcX10_copy 50 rfl h
def aX10_lay_68 (d : Nat) (x2 x4 x5 p6 : Int) (m : jM) (Q : Int → jM → Prop) : Prop := jA (d + 1) zX10_lay 68 [some (jO 10 0), none, some (jI x2), none, some (jI x4), some (jI x5), some (jO 7 p6), none] [] m Q
def aX10_lay_98 (d : Nat) (x2 x4 x5 p6 x7 : Int) (m : jM) (Q : Int → jM → Prop) : Prop := jA (d + 1) zX10_lay 98 [some (jO 10 0), none, some (jI x2), none, some (jI x4), some (jI x5), some (jO 7 p6), some (jI x7)] [] m Q
set_option maxRecDepth 100000 in
theorem gX10_lay (d : Nat) (x1 x2 x3 x4 x5 : Int) (m : jM) (Q : Int → jM → Prop)
    (h : jK d zX10_isSheet [jI x1] m (fun v1 m1 => (v1 = 0 → Q (-2) m1) ∧ (¬ v1 = 0 → jK d zX10_isSeat [jI x2] m1 (fun v2 m2 => (v2 = 0 → Q (-2) m2) ∧ (¬ v2 = 0 → (x3 < 0 → Q (-2) m2) ∧ (¬ x3 < 0 → (2 < x3 → Q (-2) m2) ∧ (¬ 2 < x3 → (x5 < 1 → Q (-2) m2) ∧ (¬ x5 < 1 → (8 < x5 → Q (-2) m2) ∧ (¬ 8 < x5 → ((0 : Int) ≤ x1 ∧ (x1 : Int) < 4) ∧ ((m2 (m2 94 x1) 0) = (-1) → aX10_lay_68 d x2 x4 x5 (m2 94 x1) m2 Q) ∧ (¬ (m2 (m2 94 x1) 0) = (-1) → ((m2 (m2 94 x1) 0) = x3 → aX10_lay_68 d x2 x4 x5 (m2 94 x1) m2 Q) ∧ (¬ (m2 (m2 94 x1) 0) = x3 → Q (-13) m2))))))))))) :
    jK (d + 1) zX10_lay [jO 10 0, jI x1, jI x2, jI x3, jI x4, jI x5] m Q := jWp_sn0 [(68, [true, false, true, false, true, true, true, false]), (98, [true, false, true, false, true, true, true, true])] jcX10_lay 33 rfl h
set_option maxRecDepth 100000 in
theorem gX10_lay_68 (d : Nat) (x2 x4 x5 p6 : Int) (m : jM) (Q : Int → jM → Prop)
    (h : ((m p6 0) = (-1) → Q (-11) m) ∧ (¬ (m p6 0) = (-1) → jK d zX7_holds [jO 7 p6, jI x4, jI x5] m (fun v1 m1 => (v1 = 0 → Q (-12) m1) ∧ (¬ v1 = 0 → aX10_lay_98 d x2 x4 x5 p6 0 m1 Q)))) :
    aX10_lay_68 d x2 x4 x5 p6 m Q := jWp_snd [(68, [true, false, true, false, true, true, true, false]), (98, [true, false, true, false, true, true, true, true])] jcX10_lay 12 rfl h
set_option maxRecDepth 100000 in
theorem gX10_lay_98 (d : Nat) (x2 x4 x5 p6 x7 : Int) (m : jM) (Q : Int → jM → Prop)
    (h : (x7 < x5 → ((0 : Int) ≤ (w32 (x4 + x7)) ∧ ((w32 (x4 + x7)) : Int) < 40) ∧ (1000000000 : Int) ≠ 0 ∧ jK d zJ9_abs_067f4 [jL (lRem (m (p6 + 1) (w32 (x4 + x7))) 1000000000)] m (fun v1 m1 => ((0 : Int) ≤ (w32 ((w32 (x2 * 8)) + x7)) ∧ ((w32 ((w32 (x2 * 8)) + x7)) : Int) < 64) ∧ aX10_lay_98 d x2 x4 x5 p6 (w32 (x7 + 1)) (jUp m1 3 (w32 ((w32 (x2 * 8)) + x7)) v1) Q)) ∧ (¬ x7 < x5 → jK d zX10_changed [jO 10 0] m (fun v2 m2 => Q x5 m2))) :
    aX10_lay_98 d x2 x4 x5 p6 x7 m Q := jWp_snd [(68, [true, false, true, false, true, true, true, false]), (98, [true, false, true, false, true, true, true, true])] jcX10_lay 24 rfl h
set_option maxRecDepth 100000 in
theorem gX10_isSide (d : Nat) (x0 : Int) (m : jM) (Q : Int → jM → Prop)
    (h : (x0 = 0 → Q 1 m) ∧ (¬ x0 = 0 → (x0 = 1 → Q 1 m) ∧ (¬ x0 = 1 → Q 0 m))) :
    jK (d + 1) zX10_isSide [jI x0] m Q := jWp_sn0 [] jcX10_isSide 9 rfl h
set_option maxRecDepth 100000 in
theorem gX10_isSeat (d : Nat) (x0 : Int) (m : jM) (Q : Int → jM → Prop)
    (h : (x0 < 0 → Q 0 m) ∧ (¬ x0 < 0 → (x0 < 8 → Q 1 m) ∧ (¬ x0 < 8 → Q 0 m))) :
    jK (d + 1) zX10_isSeat [jI x0] m Q := jWp_sn0 [] jcX10_isSeat 9 rfl h
set_option maxRecDepth 100000 in
theorem gX10_isPair (d : Nat) (x0 x1 : Int) (m : jM) (Q : Int → jM → Prop)
    (h : jK d zX10_isSeat [jI x0] m (fun v1 m1 => (v1 = 0 → Q 0 m1) ∧ (¬ v1 = 0 → jK d zX10_isSeat [jI x1] m1 (fun v2 m2 => (v2 = 0 → Q 0 m2) ∧ (¬ v2 = 0 → Q 1 m2))))) :
    jK (d + 1) zX10_isPair [jI x0, jI x1] m Q := jWp_sn0 [] jcX10_isPair 10 rfl h
set_option maxRecDepth 100000 in
theorem gX10_isRule (d : Nat) (x0 : Int) (m : jM) (Q : Int → jM → Prop)
    (h : (x0 < 0 → Q 0 m) ∧ (¬ x0 < 0 → (x0 < 4 → Q 1 m) ∧ (¬ x0 < 4 → Q 0 m))) :
    jK (d + 1) zX10_isRule [jI x0] m Q := jWp_sn0 [] jcX10_isRule 9 rfl h
set_option maxRecDepth 100000 in
theorem gX10_isSheet (d : Nat) (x0 : Int) (m : jM) (Q : Int → jM → Prop)
    (h : (x0 < 0 → Q 0 m) ∧ (¬ x0 < 0 → (x0 < 4 → Q 1 m) ∧ (¬ x0 < 4 → Q 0 m))) :
    jK (d + 1) zX10_isSheet [jI x0] m Q := jWp_sn0 [] jcX10_isSheet 9 rfl h
set_option maxRecDepth 100000 in
theorem gX10_changed (d : Nat) (m : jM) (Q : Int → jM → Prop)
    (h : Q 0 (jUp (jUp (jUp (jUp m 0 12 0) 0 13 0) 0 14 0) 0 15 0)) :
    jK (d + 1) zX10_changed [jO 10 0] m Q := jWp_sn0 [] jcX10_changed 14 rfl h
set_option maxRecDepth 100000 in
theorem gX10_refreshPlan (d : Nat) (m : jM) (Q : Int → jM → Prop)
    (h : ((m 0 12) = 0 → jK d zX4_load [jO 4 54, jO 0 1, jO 9 51] m (fun v1 m1 => jK d zX4_weigh [jO 4 54, jI 0] m1 (fun v2 m2 => Q 0 (jUp m2 0 12 1)))) ∧ (¬ (m 0 12) = 0 → Q 0 m)) :
    jK (d + 1) zX10_refreshPlan [jO 10 0] m Q := jWp_sn0 [] jcX10_refreshPlan 19 rfl h
set_option maxRecDepth 100000 in
theorem gX10_refreshShares (d : Nat) (m : jM) (Q : Int → jM → Prop)
    (h : jK d zX10_refreshPlan [jO 10 0] m (fun v1 m1 => ((m1 0 13) = 0 → jK d zX4_share [jO 4 54] m1 (fun v2 m2 => Q 0 (jUp m2 0 13 1))) ∧ (¬ (m1 0 13) = 0 → Q 0 m1))) :
    jK (d + 1) zX10_refreshShares [jO 10 0] m Q := jWp_sn0 [] jcX10_refreshShares 13 rfl h
set_option maxRecDepth 100000 in
theorem gX10_refreshNextOnes (d : Nat) (m : jM) (Q : Int → jM → Prop)
    (h : jK d zX10_refreshPlan [jO 10 0] m (fun v1 m1 => ((m1 0 14) = 0 → jK d zX3_find [jO 3 81, jO 4 54] m1 (fun v2 m2 => Q 0 (jUp m2 0 14 1))) ∧ (¬ (m1 0 14) = 0 → Q 0 m1))) :
    jK (d + 1) zX10_refreshNextOnes [jO 10 0] m Q := jWp_sn0 [] jcX10_refreshNextOnes 15 rfl h
set_option maxRecDepth 100000 in
theorem gX10_refreshDiary (d : Nat) (m : jM) (Q : Int → jM → Prop)
    (h : jK d zX10_refreshPlan [jO 10 0] m (fun v1 m1 => ((m1 0 15) = 0 → jK d zX1_write [jO 1 88, jO 4 54, jO 4 62, jY 0 64 4] m1 (fun v2 m2 => Q 0 (jUp m2 0 15 1))) ∧ (¬ (m1 0 15) = 0 → Q 0 m1))) :
    jK (d + 1) zX10_refreshDiary [jO 10 0] m Q := jWp_sn0 [] jcX10_refreshDiary 20 rfl h
set_option maxRecDepth 100000 in
theorem gX11_in (d : Nat) (x0 x2 x4 : Int) (m : jM) (Q : Int → jM → Prop)
    (h : (x0 < x2 → Q 0 m) ∧ (¬ x0 < x2 → (x4 < x0 → Q 0 m) ∧ (¬ x4 < x0 → Q 1 m))) :
    jK (d + 1) zX11_in [jL x0, jL x2, jL x4] m Q := jWp_sn0 [] jcX11_in 10 rfl h
def aX11_init_4 (d : Nat) (p0 : Int) (m : jM) (Q : Int → jM → Prop) : Prop := jA (d + 1) zX11_init 4 [some (jO 11 p0), none] [] m Q
def aX11_init_12 (d : Nat) (p0 : Int) (m : jM) (Q : Int → jM → Prop) : Prop := jA (d + 1) zX11_init 12 [some (jO 11 p0), none] [] m Q
def aX11_init_20 (d : Nat) (p0 : Int) (m : jM) (Q : Int → jM → Prop) : Prop := jA (d + 1) zX11_init 20 [some (jO 11 p0), none] [] m Q
def aX11_init_28 (d : Nat) (p0 : Int) (m : jM) (Q : Int → jM → Prop) : Prop := jA (d + 1) zX11_init 28 [some (jO 11 p0), none] [] m Q
def aX11_init_36 (d : Nat) (p0 : Int) (m : jM) (Q : Int → jM → Prop) : Prop := jA (d + 1) zX11_init 36 [some (jO 11 p0), none] [] m Q
def aX11_init_43 (d : Nat) (p0 : Int) (m : jM) (Q : Int → jM → Prop) : Prop := jA (d + 1) zX11_init 43 [some (jO 11 p0), none] [] m Q
def aX11_init_50 (d : Nat) (p0 : Int) (m : jM) (Q : Int → jM → Prop) : Prop := jA (d + 1) zX11_init 50 [some (jO 11 p0), none] [] m Q
def aX11_init_58 (d : Nat) (p0 : Int) (m : jM) (Q : Int → jM → Prop) : Prop := jA (d + 1) zX11_init 58 [some (jO 11 p0), none] [] m Q
def aX11_init_66 (d : Nat) (p0 : Int) (m : jM) (Q : Int → jM → Prop) : Prop := jA (d + 1) zX11_init 66 [some (jO 11 p0), none] [] m Q
def aX11_init_74 (d : Nat) (p0 : Int) (m : jM) (Q : Int → jM → Prop) : Prop := jA (d + 1) zX11_init 74 [some (jO 11 p0), none] [] m Q
def aX11_init_82 (d : Nat) (p0 : Int) (m : jM) (Q : Int → jM → Prop) : Prop := jA (d + 1) zX11_init 82 [some (jO 11 p0), none] [] m Q
def aX11_init_90 (d : Nat) (p0 : Int) (m : jM) (Q : Int → jM → Prop) : Prop := jA (d + 1) zX11_init 90 [some (jO 11 p0), none] [] m Q
def aX11_init_98 (d : Nat) (p0 : Int) (m : jM) (Q : Int → jM → Prop) : Prop := jA (d + 1) zX11_init 98 [some (jO 11 p0), none] [] m Q
def aX11_init_106 (d : Nat) (p0 : Int) (m : jM) (Q : Int → jM → Prop) : Prop := jA (d + 1) zX11_init 106 [some (jO 11 p0), none] [] m Q
def aX11_init_114 (d : Nat) (p0 : Int) (m : jM) (Q : Int → jM → Prop) : Prop := jA (d + 1) zX11_init 114 [some (jO 11 p0), none] [] m Q
def aX11_init_122 (d : Nat) (p0 : Int) (m : jM) (Q : Int → jM → Prop) : Prop := jA (d + 1) zX11_init 122 [some (jO 11 p0), none] [] m Q
def aX11_init_130 (d : Nat) (p0 : Int) (m : jM) (Q : Int → jM → Prop) : Prop := jA (d + 1) zX11_init 130 [some (jO 11 p0), none] [] m Q
def aX11_init_138 (d : Nat) (p0 : Int) (m : jM) (Q : Int → jM → Prop) : Prop := jA (d + 1) zX11_init 138 [some (jO 11 p0), none] [] m Q
def aX11_init_146 (d : Nat) (p0 : Int) (m : jM) (Q : Int → jM → Prop) : Prop := jA (d + 1) zX11_init 146 [some (jO 11 p0), none] [] m Q
def aX11_init_154 (d : Nat) (p0 : Int) (m : jM) (Q : Int → jM → Prop) : Prop := jA (d + 1) zX11_init 154 [some (jO 11 p0), none] [] m Q
def aX11_init_162 (d : Nat) (p0 : Int) (m : jM) (Q : Int → jM → Prop) : Prop := jA (d + 1) zX11_init 162 [some (jO 11 p0), none] [] m Q
def aX11_init_170 (d : Nat) (p0 : Int) (m : jM) (Q : Int → jM → Prop) : Prop := jA (d + 1) zX11_init 170 [some (jO 11 p0), none] [] m Q
def aX11_init_178 (d : Nat) (p0 : Int) (m : jM) (Q : Int → jM → Prop) : Prop := jA (d + 1) zX11_init 178 [some (jO 11 p0), none] [] m Q
def aX11_init_185 (d : Nat) (p0 : Int) (m : jM) (Q : Int → jM → Prop) : Prop := jA (d + 1) zX11_init 185 [some (jO 11 p0), none] [] m Q
def aX11_init_193 (d : Nat) (p0 : Int) (m : jM) (Q : Int → jM → Prop) : Prop := jA (d + 1) zX11_init 193 [some (jO 11 p0), none] [] m Q
def aX11_init_201 (d : Nat) (p0 : Int) (m : jM) (Q : Int → jM → Prop) : Prop := jA (d + 1) zX11_init 201 [some (jO 11 p0), none] [] m Q
def aX11_init_210 (d : Nat) (p0 : Int) (m : jM) (Q : Int → jM → Prop) : Prop := jA (d + 1) zX11_init 210 [some (jO 11 p0), none] [] m Q
def aX11_init_219 (d : Nat) (p0 : Int) (m : jM) (Q : Int → jM → Prop) : Prop := jA (d + 1) zX11_init 219 [some (jO 11 p0), none] [] m Q
def aX11_init_227 (d : Nat) (p0 : Int) (m : jM) (Q : Int → jM → Prop) : Prop := jA (d + 1) zX11_init 227 [some (jO 11 p0), none] [] m Q
def aX11_init_235 (d : Nat) (p0 : Int) (m : jM) (Q : Int → jM → Prop) : Prop := jA (d + 1) zX11_init 235 [some (jO 11 p0), none] [] m Q
def aX11_init_243 (d : Nat) (p0 : Int) (m : jM) (Q : Int → jM → Prop) : Prop := jA (d + 1) zX11_init 243 [some (jO 11 p0), none] [] m Q
def aX11_init_251 (d : Nat) (p0 : Int) (m : jM) (Q : Int → jM → Prop) : Prop := jA (d + 1) zX11_init 251 [some (jO 11 p0), none] [] m Q
def aX11_init_260 (d : Nat) (p0 : Int) (m : jM) (Q : Int → jM → Prop) : Prop := jA (d + 1) zX11_init 260 [some (jO 11 p0), none] [] m Q
def aX11_init_268 (d : Nat) (p0 : Int) (m : jM) (Q : Int → jM → Prop) : Prop := jA (d + 1) zX11_init 268 [some (jO 11 p0), none] [] m Q
def aX11_init_276 (d : Nat) (p0 : Int) (m : jM) (Q : Int → jM → Prop) : Prop := jA (d + 1) zX11_init 276 [some (jO 11 p0), none] [] m Q
def aX11_init_284 (d : Nat) (p0 : Int) (m : jM) (Q : Int → jM → Prop) : Prop := jA (d + 1) zX11_init 284 [some (jO 11 p0), none] [] m Q
def aX11_init_292 (d : Nat) (p0 : Int) (m : jM) (Q : Int → jM → Prop) : Prop := jA (d + 1) zX11_init 292 [some (jO 11 p0), none] [] m Q
def aX11_init_300 (d : Nat) (p0 : Int) (m : jM) (Q : Int → jM → Prop) : Prop := jA (d + 1) zX11_init 300 [some (jO 11 p0), none] [] m Q
def aX11_init_308 (d : Nat) (p0 : Int) (m : jM) (Q : Int → jM → Prop) : Prop := jA (d + 1) zX11_init 308 [some (jO 11 p0), none] [] m Q
def aX11_init_316 (d : Nat) (p0 : Int) (m : jM) (Q : Int → jM → Prop) : Prop := jA (d + 1) zX11_init 316 [some (jO 11 p0), none] [] m Q
def aX11_init_325 (d : Nat) (p0 : Int) (m : jM) (Q : Int → jM → Prop) : Prop := jA (d + 1) zX11_init 325 [some (jO 11 p0), none] [] m Q
def aX11_init_333 (d : Nat) (p0 : Int) (m : jM) (Q : Int → jM → Prop) : Prop := jA (d + 1) zX11_init 333 [some (jO 11 p0), none] [] m Q
def aX11_init_341 (d : Nat) (p0 : Int) (m : jM) (Q : Int → jM → Prop) : Prop := jA (d + 1) zX11_init 341 [some (jO 11 p0), none] [] m Q
def aX11_init_349 (d : Nat) (p0 : Int) (m : jM) (Q : Int → jM → Prop) : Prop := jA (d + 1) zX11_init 349 [some (jO 11 p0), none] [] m Q
def aX11_init_357 (d : Nat) (p0 : Int) (m : jM) (Q : Int → jM → Prop) : Prop := jA (d + 1) zX11_init 357 [some (jO 11 p0), none] [] m Q
def aX11_init_365 (d : Nat) (p0 : Int) (m : jM) (Q : Int → jM → Prop) : Prop := jA (d + 1) zX11_init 365 [some (jO 11 p0), none] [] m Q
def aX11_init_373 (d : Nat) (p0 : Int) (m : jM) (Q : Int → jM → Prop) : Prop := jA (d + 1) zX11_init 373 [some (jO 11 p0), none] [] m Q
def aX11_init_381 (d : Nat) (p0 : Int) (m : jM) (Q : Int → jM → Prop) : Prop := jA (d + 1) zX11_init 381 [some (jO 11 p0), none] [] m Q
def aX11_init_389 (d : Nat) (p0 : Int) (m : jM) (Q : Int → jM → Prop) : Prop := jA (d + 1) zX11_init 389 [some (jO 11 p0), none] [] m Q
def aX11_init_397 (d : Nat) (p0 : Int) (m : jM) (Q : Int → jM → Prop) : Prop := jA (d + 1) zX11_init 397 [some (jO 11 p0), none] [] m Q
def aX11_init_404 (d : Nat) (p0 : Int) (m : jM) (Q : Int → jM → Prop) : Prop := jA (d + 1) zX11_init 404 [some (jO 11 p0), none] [] m Q
def aX11_init_411 (d : Nat) (p0 : Int) (m : jM) (Q : Int → jM → Prop) : Prop := jA (d + 1) zX11_init 411 [some (jO 11 p0), none] [] m Q
def aX11_init_419 (d : Nat) (p0 : Int) (m : jM) (Q : Int → jM → Prop) : Prop := jA (d + 1) zX11_init 419 [some (jO 11 p0), none] [] m Q
def aX11_init_428 (d : Nat) (p0 : Int) (m : jM) (Q : Int → jM → Prop) : Prop := jA (d + 1) zX11_init 428 [some (jO 11 p0), none] [] m Q
def aX11_init_451 (d : Nat) (p0 : Int) (m : jM) (Q : Int → jM → Prop) : Prop := jA (d + 1) zX11_init 451 [some (jO 11 p0), none] [] m Q
def aX11_init_458 (d : Nat) (p0 : Int) (m : jM) (Q : Int → jM → Prop) : Prop := jA (d + 1) zX11_init 458 [some (jO 11 p0), none] [] m Q
def aX11_init_467 (d : Nat) (p0 : Int) (m : jM) (Q : Int → jM → Prop) : Prop := jA (d + 1) zX11_init 467 [some (jO 11 p0), none] [] m Q
def aX11_init_469 (d : Nat) (p0 x1 : Int) (m : jM) (Q : Int → jM → Prop) : Prop := jA (d + 1) zX11_init 469 [some (jO 11 p0), some (jI x1)] [] m Q
def aX11_init_475 (d : Nat) (p0 x1 : Int) (m : jM) (Q : Int → jM → Prop) : Prop := jA (d + 1) zX11_init 475 [some (jO 11 p0), some (jI x1)] [] m Q
def aX11_init_484 (d : Nat) (p0 x1 : Int) (m : jM) (Q : Int → jM → Prop) : Prop := jA (d + 1) zX11_init 484 [some (jO 11 p0), some (jI x1)] [] m Q
def aX11_init_487 (d : Nat) (p0 x1 : Int) (m : jM) (Q : Int → jM → Prop) : Prop := jA (d + 1) zX11_init 487 [some (jO 11 p0), some (jI x1)] [] m Q
def aX11_init_490 (d : Nat) (m : jM) (Q : Int → jM → Prop) : Prop := jA (d + 1) zX11_init 490 [none, none] [] m Q
set_option maxRecDepth 100000 in
theorem gX11_init (d : Nat) (p0 : Int) (m : jM) (Q : Int → jM → Prop)
    (h : aX11_init_4 d p0 m Q) :
    jK (d + 1) zX11_init [jO 11 p0] m Q := jWp_sn0 [(4, [true, false]), (12, [true, false]), (20, [true, false]), (28, [true, false]), (36, [true, false]), (43, [true, false]), (50, [true, false]), (58, [true, false]), (66, [true, false]), (74, [true, false]), (82, [true, false]), (90, [true, false]), (98, [true, false]), (106, [true, false]), (114, [true, false]), (122, [true, false]), (130, [true, false]), (138, [true, false]), (146, [true, false]), (154, [true, false]), (162, [true, false]), (170, [true, false]), (178, [true, false]), (185, [true, false]), (193, [true, false]), (201, [true, false]), (210, [true, false]), (219, [true, false]), (227, [true, false]), (235, [true, false]), (243, [true, false]), (251, [true, false]), (260, [true, false]), (268, [true, false]), (276, [true, false]), (284, [true, false]), (292, [true, false]), (300, [true, false]), (308, [true, false]), (316, [true, false]), (325, [true, false]), (333, [true, false]), (341, [true, false]), (349, [true, false]), (357, [true, false]), (365, [true, false]), (373, [true, false]), (381, [true, false]), (389, [true, false]), (397, [true, false]), (404, [true, false]), (411, [true, false]), (419, [true, false]), (428, [true, false]), (451, [true, false]), (458, [true, false]), (467, [true, false]), (469, [true, true]), (475, [true, true]), (484, [true, true]), (487, [true, true]), (490, [false, false])] jcX11_init 3 rfl h
set_option maxRecDepth 100000 in
theorem gX11_init_4 (d : Nat) (p0 : Int) (m : jM) (Q : Int → jM → Prop)
    (h : (m (-3) 0 < m (-2) (-7) ∧ jKd (m (-3) 0) = 20 ∧ jLn (m (-3) 0) = 16) ∧ (m (-3) 0) = (p0 + 1) ∧ aX11_init_12 d p0 (jUp (jNw m) p0 1 (m (-3) 0)) Q) :
    aX11_init_4 d p0 m Q := jWp_snd [(4, [true, false]), (12, [true, false]), (20, [true, false]), (28, [true, false]), (36, [true, false]), (43, [true, false]), (50, [true, false]), (58, [true, false]), (66, [true, false]), (74, [true, false]), (82, [true, false]), (90, [true, false]), (98, [true, false]), (106, [true, false]), (114, [true, false]), (122, [true, false]), (130, [true, false]), (138, [true, false]), (146, [true, false]), (154, [true, false]), (162, [true, false]), (170, [true, false]), (178, [true, false]), (185, [true, false]), (193, [true, false]), (201, [true, false]), (210, [true, false]), (219, [true, false]), (227, [true, false]), (235, [true, false]), (243, [true, false]), (251, [true, false]), (260, [true, false]), (268, [true, false]), (276, [true, false]), (284, [true, false]), (292, [true, false]), (300, [true, false]), (308, [true, false]), (316, [true, false]), (325, [true, false]), (333, [true, false]), (341, [true, false]), (349, [true, false]), (357, [true, false]), (365, [true, false]), (373, [true, false]), (381, [true, false]), (389, [true, false]), (397, [true, false]), (404, [true, false]), (411, [true, false]), (419, [true, false]), (428, [true, false]), (451, [true, false]), (458, [true, false]), (467, [true, false]), (469, [true, true]), (475, [true, true]), (484, [true, true]), (487, [true, true]), (490, [false, false])] jcX11_init 5 rfl h
set_option maxRecDepth 100000 in
theorem gX11_init_12 (d : Nat) (p0 : Int) (m : jM) (Q : Int → jM → Prop)
    (h : (m (-3) 0 < m (-2) (-7) ∧ jKd (m (-3) 0) = 20 ∧ jLn (m (-3) 0) = 48) ∧ (m (-3) 0) = (p0 + 2) ∧ aX11_init_20 d p0 (jUp (jNw m) p0 2 (m (-3) 0)) Q) :
    aX11_init_12 d p0 m Q := jWp_snd [(4, [true, false]), (12, [true, false]), (20, [true, false]), (28, [true, false]), (36, [true, false]), (43, [true, false]), (50, [true, false]), (58, [true, false]), (66, [true, false]), (74, [true, false]), (82, [true, false]), (90, [true, false]), (98, [true, false]), (106, [true, false]), (114, [true, false]), (122, [true, false]), (130, [true, false]), (138, [true, false]), (146, [true, false]), (154, [true, false]), (162, [true, false]), (170, [true, false]), (178, [true, false]), (185, [true, false]), (193, [true, false]), (201, [true, false]), (210, [true, false]), (219, [true, false]), (227, [true, false]), (235, [true, false]), (243, [true, false]), (251, [true, false]), (260, [true, false]), (268, [true, false]), (276, [true, false]), (284, [true, false]), (292, [true, false]), (300, [true, false]), (308, [true, false]), (316, [true, false]), (325, [true, false]), (333, [true, false]), (341, [true, false]), (349, [true, false]), (357, [true, false]), (365, [true, false]), (373, [true, false]), (381, [true, false]), (389, [true, false]), (397, [true, false]), (404, [true, false]), (411, [true, false]), (419, [true, false]), (428, [true, false]), (451, [true, false]), (458, [true, false]), (467, [true, false]), (469, [true, true]), (475, [true, true]), (484, [true, true]), (487, [true, true]), (490, [false, false])] jcX11_init 5 rfl h
set_option maxRecDepth 100000 in
theorem gX11_init_20 (d : Nat) (p0 : Int) (m : jM) (Q : Int → jM → Prop)
    (h : (m (-3) 0 < m (-2) (-7) ∧ jKd (m (-3) 0) = 21 ∧ jLn (m (-3) 0) = 64) ∧ (m (-3) 0) = (p0 + 3) ∧ aX11_init_28 d p0 (jUp (jNw m) p0 3 (m (-3) 0)) Q) :
    aX11_init_20 d p0 m Q := jWp_snd [(4, [true, false]), (12, [true, false]), (20, [true, false]), (28, [true, false]), (36, [true, false]), (43, [true, false]), (50, [true, false]), (58, [true, false]), (66, [true, false]), (74, [true, false]), (82, [true, false]), (90, [true, false]), (98, [true, false]), (106, [true, false]), (114, [true, false]), (122, [true, false]), (130, [true, false]), (138, [true, false]), (146, [true, false]), (154, [true, false]), (162, [true, false]), (170, [true, false]), (178, [true, false]), (185, [true, false]), (193, [true, false]), (201, [true, false]), (210, [true, false]), (219, [true, false]), (227, [true, false]), (235, [true, false]), (243, [true, false]), (251, [true, false]), (260, [true, false]), (268, [true, false]), (276, [true, false]), (284, [true, false]), (292, [true, false]), (300, [true, false]), (308, [true, false]), (316, [true, false]), (325, [true, false]), (333, [true, false]), (341, [true, false]), (349, [true, false]), (357, [true, false]), (365, [true, false]), (373, [true, false]), (381, [true, false]), (389, [true, false]), (397, [true, false]), (404, [true, false]), (411, [true, false]), (419, [true, false]), (428, [true, false]), (451, [true, false]), (458, [true, false]), (467, [true, false]), (469, [true, true]), (475, [true, true]), (484, [true, true]), (487, [true, true]), (490, [false, false])] jcX11_init 5 rfl h
set_option maxRecDepth 100000 in
theorem gX11_init_28 (d : Nat) (p0 : Int) (m : jM) (Q : Int → jM → Prop)
    (h : (m (-3) 0 < m (-2) (-7) ∧ jKd (m (-3) 0) = 20 ∧ jLn (m (-3) 0) = 64) ∧ (m (-3) 0) = (p0 + 4) ∧ aX11_init_36 d p0 (jUp (jNw m) p0 4 (m (-3) 0)) Q) :
    aX11_init_28 d p0 m Q := jWp_snd [(4, [true, false]), (12, [true, false]), (20, [true, false]), (28, [true, false]), (36, [true, false]), (43, [true, false]), (50, [true, false]), (58, [true, false]), (66, [true, false]), (74, [true, false]), (82, [true, false]), (90, [true, false]), (98, [true, false]), (106, [true, false]), (114, [true, false]), (122, [true, false]), (130, [true, false]), (138, [true, false]), (146, [true, false]), (154, [true, false]), (162, [true, false]), (170, [true, false]), (178, [true, false]), (185, [true, false]), (193, [true, false]), (201, [true, false]), (210, [true, false]), (219, [true, false]), (227, [true, false]), (235, [true, false]), (243, [true, false]), (251, [true, false]), (260, [true, false]), (268, [true, false]), (276, [true, false]), (284, [true, false]), (292, [true, false]), (300, [true, false]), (308, [true, false]), (316, [true, false]), (325, [true, false]), (333, [true, false]), (341, [true, false]), (349, [true, false]), (357, [true, false]), (365, [true, false]), (373, [true, false]), (381, [true, false]), (389, [true, false]), (397, [true, false]), (404, [true, false]), (411, [true, false]), (419, [true, false]), (428, [true, false]), (451, [true, false]), (458, [true, false]), (467, [true, false]), (469, [true, true]), (475, [true, true]), (484, [true, true]), (487, [true, true]), (490, [false, false])] jcX11_init 5 rfl h
set_option maxRecDepth 100000 in
theorem gX11_init_36 (d : Nat) (p0 : Int) (m : jM) (Q : Int → jM → Prop)
    (h : (m (-3) 0 < m (-2) (-7) ∧ jKd (m (-3) 0) = 20 ∧ jLn (m (-3) 0) = 4) ∧ (m (-3) 0) = (p0 + 5) ∧ aX11_init_43 d p0 (jUp (jNw m) p0 5 (m (-3) 0)) Q) :
    aX11_init_36 d p0 m Q := jWp_snd [(4, [true, false]), (12, [true, false]), (20, [true, false]), (28, [true, false]), (36, [true, false]), (43, [true, false]), (50, [true, false]), (58, [true, false]), (66, [true, false]), (74, [true, false]), (82, [true, false]), (90, [true, false]), (98, [true, false]), (106, [true, false]), (114, [true, false]), (122, [true, false]), (130, [true, false]), (138, [true, false]), (146, [true, false]), (154, [true, false]), (162, [true, false]), (170, [true, false]), (178, [true, false]), (185, [true, false]), (193, [true, false]), (201, [true, false]), (210, [true, false]), (219, [true, false]), (227, [true, false]), (235, [true, false]), (243, [true, false]), (251, [true, false]), (260, [true, false]), (268, [true, false]), (276, [true, false]), (284, [true, false]), (292, [true, false]), (300, [true, false]), (308, [true, false]), (316, [true, false]), (325, [true, false]), (333, [true, false]), (341, [true, false]), (349, [true, false]), (357, [true, false]), (365, [true, false]), (373, [true, false]), (381, [true, false]), (389, [true, false]), (397, [true, false]), (404, [true, false]), (411, [true, false]), (419, [true, false]), (428, [true, false]), (451, [true, false]), (458, [true, false]), (467, [true, false]), (469, [true, true]), (475, [true, true]), (484, [true, true]), (487, [true, true]), (490, [false, false])] jcX11_init 5 rfl h
set_option maxRecDepth 100000 in
theorem gX11_init_43 (d : Nat) (p0 : Int) (m : jM) (Q : Int → jM → Prop)
    (h : (m (-3) 0 < m (-2) (-7) ∧ jKd (m (-3) 0) = 20 ∧ jLn (m (-3) 0) = 4) ∧ (m (-3) 0) = (p0 + 6) ∧ aX11_init_50 d p0 (jUp (jNw m) p0 6 (m (-3) 0)) Q) :
    aX11_init_43 d p0 m Q := jWp_snd [(4, [true, false]), (12, [true, false]), (20, [true, false]), (28, [true, false]), (36, [true, false]), (43, [true, false]), (50, [true, false]), (58, [true, false]), (66, [true, false]), (74, [true, false]), (82, [true, false]), (90, [true, false]), (98, [true, false]), (106, [true, false]), (114, [true, false]), (122, [true, false]), (130, [true, false]), (138, [true, false]), (146, [true, false]), (154, [true, false]), (162, [true, false]), (170, [true, false]), (178, [true, false]), (185, [true, false]), (193, [true, false]), (201, [true, false]), (210, [true, false]), (219, [true, false]), (227, [true, false]), (235, [true, false]), (243, [true, false]), (251, [true, false]), (260, [true, false]), (268, [true, false]), (276, [true, false]), (284, [true, false]), (292, [true, false]), (300, [true, false]), (308, [true, false]), (316, [true, false]), (325, [true, false]), (333, [true, false]), (341, [true, false]), (349, [true, false]), (357, [true, false]), (365, [true, false]), (373, [true, false]), (381, [true, false]), (389, [true, false]), (397, [true, false]), (404, [true, false]), (411, [true, false]), (419, [true, false]), (428, [true, false]), (451, [true, false]), (458, [true, false]), (467, [true, false]), (469, [true, true]), (475, [true, true]), (484, [true, true]), (487, [true, true]), (490, [false, false])] jcX11_init 5 rfl h
set_option maxRecDepth 100000 in
theorem gX11_init_50 (d : Nat) (p0 : Int) (m : jM) (Q : Int → jM → Prop)
    (h : (m (-3) 0 < m (-2) (-7) ∧ jKd (m (-3) 0) = 20 ∧ jLn (m (-3) 0) = 16) ∧ (m (-3) 0) = (p0 + 7) ∧ aX11_init_58 d p0 (jUp (jNw m) p0 7 (m (-3) 0)) Q) :
    aX11_init_50 d p0 m Q := jWp_snd [(4, [true, false]), (12, [true, false]), (20, [true, false]), (28, [true, false]), (36, [true, false]), (43, [true, false]), (50, [true, false]), (58, [true, false]), (66, [true, false]), (74, [true, false]), (82, [true, false]), (90, [true, false]), (98, [true, false]), (106, [true, false]), (114, [true, false]), (122, [true, false]), (130, [true, false]), (138, [true, false]), (146, [true, false]), (154, [true, false]), (162, [true, false]), (170, [true, false]), (178, [true, false]), (185, [true, false]), (193, [true, false]), (201, [true, false]), (210, [true, false]), (219, [true, false]), (227, [true, false]), (235, [true, false]), (243, [true, false]), (251, [true, false]), (260, [true, false]), (268, [true, false]), (276, [true, false]), (284, [true, false]), (292, [true, false]), (300, [true, false]), (308, [true, false]), (316, [true, false]), (325, [true, false]), (333, [true, false]), (341, [true, false]), (349, [true, false]), (357, [true, false]), (365, [true, false]), (373, [true, false]), (381, [true, false]), (389, [true, false]), (397, [true, false]), (404, [true, false]), (411, [true, false]), (419, [true, false]), (428, [true, false]), (451, [true, false]), (458, [true, false]), (467, [true, false]), (469, [true, true]), (475, [true, true]), (484, [true, true]), (487, [true, true]), (490, [false, false])] jcX11_init 5 rfl h
set_option maxRecDepth 100000 in
theorem gX11_init_58 (d : Nat) (p0 : Int) (m : jM) (Q : Int → jM → Prop)
    (h : (m (-3) 0 < m (-2) (-7) ∧ jKd (m (-3) 0) = 20 ∧ jLn (m (-3) 0) = 96) ∧ (m (-3) 0) = (p0 + 8) ∧ aX11_init_66 d p0 (jUp (jNw m) p0 8 (m (-3) 0)) Q) :
    aX11_init_58 d p0 m Q := jWp_snd [(4, [true, false]), (12, [true, false]), (20, [true, false]), (28, [true, false]), (36, [true, false]), (43, [true, false]), (50, [true, false]), (58, [true, false]), (66, [true, false]), (74, [true, false]), (82, [true, false]), (90, [true, false]), (98, [true, false]), (106, [true, false]), (114, [true, false]), (122, [true, false]), (130, [true, false]), (138, [true, false]), (146, [true, false]), (154, [true, false]), (162, [true, false]), (170, [true, false]), (178, [true, false]), (185, [true, false]), (193, [true, false]), (201, [true, false]), (210, [true, false]), (219, [true, false]), (227, [true, false]), (235, [true, false]), (243, [true, false]), (251, [true, false]), (260, [true, false]), (268, [true, false]), (276, [true, false]), (284, [true, false]), (292, [true, false]), (300, [true, false]), (308, [true, false]), (316, [true, false]), (325, [true, false]), (333, [true, false]), (341, [true, false]), (349, [true, false]), (357, [true, false]), (365, [true, false]), (373, [true, false]), (381, [true, false]), (389, [true, false]), (397, [true, false]), (404, [true, false]), (411, [true, false]), (419, [true, false]), (428, [true, false]), (451, [true, false]), (458, [true, false]), (467, [true, false]), (469, [true, true]), (475, [true, true]), (484, [true, true]), (487, [true, true]), (490, [false, false])] jcX11_init 5 rfl h
set_option maxRecDepth 100000 in
theorem gX11_init_66 (d : Nat) (p0 : Int) (m : jM) (Q : Int → jM → Prop)
    (h : (m (-3) 0 < m (-2) (-7) ∧ jKd (m (-3) 0) = 20 ∧ jLn (m (-3) 0) = 96) ∧ (m (-3) 0) = (p0 + 9) ∧ aX11_init_74 d p0 (jUp (jNw m) p0 9 (m (-3) 0)) Q) :
    aX11_init_66 d p0 m Q := jWp_snd [(4, [true, false]), (12, [true, false]), (20, [true, false]), (28, [true, false]), (36, [true, false]), (43, [true, false]), (50, [true, false]), (58, [true, false]), (66, [true, false]), (74, [true, false]), (82, [true, false]), (90, [true, false]), (98, [true, false]), (106, [true, false]), (114, [true, false]), (122, [true, false]), (130, [true, false]), (138, [true, false]), (146, [true, false]), (154, [true, false]), (162, [true, false]), (170, [true, false]), (178, [true, false]), (185, [true, false]), (193, [true, false]), (201, [true, false]), (210, [true, false]), (219, [true, false]), (227, [true, false]), (235, [true, false]), (243, [true, false]), (251, [true, false]), (260, [true, false]), (268, [true, false]), (276, [true, false]), (284, [true, false]), (292, [true, false]), (300, [true, false]), (308, [true, false]), (316, [true, false]), (325, [true, false]), (333, [true, false]), (341, [true, false]), (349, [true, false]), (357, [true, false]), (365, [true, false]), (373, [true, false]), (381, [true, false]), (389, [true, false]), (397, [true, false]), (404, [true, false]), (411, [true, false]), (419, [true, false]), (428, [true, false]), (451, [true, false]), (458, [true, false]), (467, [true, false]), (469, [true, true]), (475, [true, true]), (484, [true, true]), (487, [true, true]), (490, [false, false])] jcX11_init 5 rfl h
set_option maxRecDepth 100000 in
theorem gX11_init_74 (d : Nat) (p0 : Int) (m : jM) (Q : Int → jM → Prop)
    (h : (m (-3) 0 < m (-2) (-7) ∧ jKd (m (-3) 0) = 20 ∧ jLn (m (-3) 0) = 96) ∧ (m (-3) 0) = (p0 + 10) ∧ aX11_init_82 d p0 (jUp (jNw m) p0 10 (m (-3) 0)) Q) :
    aX11_init_74 d p0 m Q := jWp_snd [(4, [true, false]), (12, [true, false]), (20, [true, false]), (28, [true, false]), (36, [true, false]), (43, [true, false]), (50, [true, false]), (58, [true, false]), (66, [true, false]), (74, [true, false]), (82, [true, false]), (90, [true, false]), (98, [true, false]), (106, [true, false]), (114, [true, false]), (122, [true, false]), (130, [true, false]), (138, [true, false]), (146, [true, false]), (154, [true, false]), (162, [true, false]), (170, [true, false]), (178, [true, false]), (185, [true, false]), (193, [true, false]), (201, [true, false]), (210, [true, false]), (219, [true, false]), (227, [true, false]), (235, [true, false]), (243, [true, false]), (251, [true, false]), (260, [true, false]), (268, [true, false]), (276, [true, false]), (284, [true, false]), (292, [true, false]), (300, [true, false]), (308, [true, false]), (316, [true, false]), (325, [true, false]), (333, [true, false]), (341, [true, false]), (349, [true, false]), (357, [true, false]), (365, [true, false]), (373, [true, false]), (381, [true, false]), (389, [true, false]), (397, [true, false]), (404, [true, false]), (411, [true, false]), (419, [true, false]), (428, [true, false]), (451, [true, false]), (458, [true, false]), (467, [true, false]), (469, [true, true]), (475, [true, true]), (484, [true, true]), (487, [true, true]), (490, [false, false])] jcX11_init 5 rfl h
set_option maxRecDepth 100000 in
theorem gX11_init_82 (d : Nat) (p0 : Int) (m : jM) (Q : Int → jM → Prop)
    (h : (m (-3) 0 < m (-2) (-7) ∧ jKd (m (-3) 0) = 20 ∧ jLn (m (-3) 0) = 96) ∧ (m (-3) 0) = (p0 + 11) ∧ aX11_init_90 d p0 (jUp (jNw m) p0 11 (m (-3) 0)) Q) :
    aX11_init_82 d p0 m Q := jWp_snd [(4, [true, false]), (12, [true, false]), (20, [true, false]), (28, [true, false]), (36, [true, false]), (43, [true, false]), (50, [true, false]), (58, [true, false]), (66, [true, false]), (74, [true, false]), (82, [true, false]), (90, [true, false]), (98, [true, false]), (106, [true, false]), (114, [true, false]), (122, [true, false]), (130, [true, false]), (138, [true, false]), (146, [true, false]), (154, [true, false]), (162, [true, false]), (170, [true, false]), (178, [true, false]), (185, [true, false]), (193, [true, false]), (201, [true, false]), (210, [true, false]), (219, [true, false]), (227, [true, false]), (235, [true, false]), (243, [true, false]), (251, [true, false]), (260, [true, false]), (268, [true, false]), (276, [true, false]), (284, [true, false]), (292, [true, false]), (300, [true, false]), (308, [true, false]), (316, [true, false]), (325, [true, false]), (333, [true, false]), (341, [true, false]), (349, [true, false]), (357, [true, false]), (365, [true, false]), (373, [true, false]), (381, [true, false]), (389, [true, false]), (397, [true, false]), (404, [true, false]), (411, [true, false]), (419, [true, false]), (428, [true, false]), (451, [true, false]), (458, [true, false]), (467, [true, false]), (469, [true, true]), (475, [true, true]), (484, [true, true]), (487, [true, true]), (490, [false, false])] jcX11_init 5 rfl h
set_option maxRecDepth 100000 in
theorem gX11_init_90 (d : Nat) (p0 : Int) (m : jM) (Q : Int → jM → Prop)
    (h : (m (-3) 0 < m (-2) (-7) ∧ jKd (m (-3) 0) = 20 ∧ jLn (m (-3) 0) = 96) ∧ (m (-3) 0) = (p0 + 12) ∧ aX11_init_98 d p0 (jUp (jNw m) p0 12 (m (-3) 0)) Q) :
    aX11_init_90 d p0 m Q := jWp_snd [(4, [true, false]), (12, [true, false]), (20, [true, false]), (28, [true, false]), (36, [true, false]), (43, [true, false]), (50, [true, false]), (58, [true, false]), (66, [true, false]), (74, [true, false]), (82, [true, false]), (90, [true, false]), (98, [true, false]), (106, [true, false]), (114, [true, false]), (122, [true, false]), (130, [true, false]), (138, [true, false]), (146, [true, false]), (154, [true, false]), (162, [true, false]), (170, [true, false]), (178, [true, false]), (185, [true, false]), (193, [true, false]), (201, [true, false]), (210, [true, false]), (219, [true, false]), (227, [true, false]), (235, [true, false]), (243, [true, false]), (251, [true, false]), (260, [true, false]), (268, [true, false]), (276, [true, false]), (284, [true, false]), (292, [true, false]), (300, [true, false]), (308, [true, false]), (316, [true, false]), (325, [true, false]), (333, [true, false]), (341, [true, false]), (349, [true, false]), (357, [true, false]), (365, [true, false]), (373, [true, false]), (381, [true, false]), (389, [true, false]), (397, [true, false]), (404, [true, false]), (411, [true, false]), (419, [true, false]), (428, [true, false]), (451, [true, false]), (458, [true, false]), (467, [true, false]), (469, [true, true]), (475, [true, true]), (484, [true, true]), (487, [true, true]), (490, [false, false])] jcX11_init 5 rfl h
set_option maxRecDepth 100000 in
theorem gX11_init_98 (d : Nat) (p0 : Int) (m : jM) (Q : Int → jM → Prop)
    (h : (m (-3) 0 < m (-2) (-7) ∧ jKd (m (-3) 0) = 20 ∧ jLn (m (-3) 0) = 96) ∧ (m (-3) 0) = (p0 + 13) ∧ aX11_init_106 d p0 (jUp (jNw m) p0 13 (m (-3) 0)) Q) :
    aX11_init_98 d p0 m Q := jWp_snd [(4, [true, false]), (12, [true, false]), (20, [true, false]), (28, [true, false]), (36, [true, false]), (43, [true, false]), (50, [true, false]), (58, [true, false]), (66, [true, false]), (74, [true, false]), (82, [true, false]), (90, [true, false]), (98, [true, false]), (106, [true, false]), (114, [true, false]), (122, [true, false]), (130, [true, false]), (138, [true, false]), (146, [true, false]), (154, [true, false]), (162, [true, false]), (170, [true, false]), (178, [true, false]), (185, [true, false]), (193, [true, false]), (201, [true, false]), (210, [true, false]), (219, [true, false]), (227, [true, false]), (235, [true, false]), (243, [true, false]), (251, [true, false]), (260, [true, false]), (268, [true, false]), (276, [true, false]), (284, [true, false]), (292, [true, false]), (300, [true, false]), (308, [true, false]), (316, [true, false]), (325, [true, false]), (333, [true, false]), (341, [true, false]), (349, [true, false]), (357, [true, false]), (365, [true, false]), (373, [true, false]), (381, [true, false]), (389, [true, false]), (397, [true, false]), (404, [true, false]), (411, [true, false]), (419, [true, false]), (428, [true, false]), (451, [true, false]), (458, [true, false]), (467, [true, false]), (469, [true, true]), (475, [true, true]), (484, [true, true]), (487, [true, true]), (490, [false, false])] jcX11_init 5 rfl h
set_option maxRecDepth 100000 in
theorem gX11_init_106 (d : Nat) (p0 : Int) (m : jM) (Q : Int → jM → Prop)
    (h : (m (-3) 0 < m (-2) (-7) ∧ jKd (m (-3) 0) = 20 ∧ jLn (m (-3) 0) = 96) ∧ (m (-3) 0) = (p0 + 14) ∧ aX11_init_114 d p0 (jUp (jNw m) p0 14 (m (-3) 0)) Q) :
    aX11_init_106 d p0 m Q := jWp_snd [(4, [true, false]), (12, [true, false]), (20, [true, false]), (28, [true, false]), (36, [true, false]), (43, [true, false]), (50, [true, false]), (58, [true, false]), (66, [true, false]), (74, [true, false]), (82, [true, false]), (90, [true, false]), (98, [true, false]), (106, [true, false]), (114, [true, false]), (122, [true, false]), (130, [true, false]), (138, [true, false]), (146, [true, false]), (154, [true, false]), (162, [true, false]), (170, [true, false]), (178, [true, false]), (185, [true, false]), (193, [true, false]), (201, [true, false]), (210, [true, false]), (219, [true, false]), (227, [true, false]), (235, [true, false]), (243, [true, false]), (251, [true, false]), (260, [true, false]), (268, [true, false]), (276, [true, false]), (284, [true, false]), (292, [true, false]), (300, [true, false]), (308, [true, false]), (316, [true, false]), (325, [true, false]), (333, [true, false]), (341, [true, false]), (349, [true, false]), (357, [true, false]), (365, [true, false]), (373, [true, false]), (381, [true, false]), (389, [true, false]), (397, [true, false]), (404, [true, false]), (411, [true, false]), (419, [true, false]), (428, [true, false]), (451, [true, false]), (458, [true, false]), (467, [true, false]), (469, [true, true]), (475, [true, true]), (484, [true, true]), (487, [true, true]), (490, [false, false])] jcX11_init 5 rfl h
set_option maxRecDepth 100000 in
theorem gX11_init_114 (d : Nat) (p0 : Int) (m : jM) (Q : Int → jM → Prop)
    (h : (m (-3) 0 < m (-2) (-7) ∧ jKd (m (-3) 0) = 20 ∧ jLn (m (-3) 0) = 60) ∧ (m (-3) 0) = (p0 + 15) ∧ aX11_init_122 d p0 (jUp (jNw m) p0 15 (m (-3) 0)) Q) :
    aX11_init_114 d p0 m Q := jWp_snd [(4, [true, false]), (12, [true, false]), (20, [true, false]), (28, [true, false]), (36, [true, false]), (43, [true, false]), (50, [true, false]), (58, [true, false]), (66, [true, false]), (74, [true, false]), (82, [true, false]), (90, [true, false]), (98, [true, false]), (106, [true, false]), (114, [true, false]), (122, [true, false]), (130, [true, false]), (138, [true, false]), (146, [true, false]), (154, [true, false]), (162, [true, false]), (170, [true, false]), (178, [true, false]), (185, [true, false]), (193, [true, false]), (201, [true, false]), (210, [true, false]), (219, [true, false]), (227, [true, false]), (235, [true, false]), (243, [true, false]), (251, [true, false]), (260, [true, false]), (268, [true, false]), (276, [true, false]), (284, [true, false]), (292, [true, false]), (300, [true, false]), (308, [true, false]), (316, [true, false]), (325, [true, false]), (333, [true, false]), (341, [true, false]), (349, [true, false]), (357, [true, false]), (365, [true, false]), (373, [true, false]), (381, [true, false]), (389, [true, false]), (397, [true, false]), (404, [true, false]), (411, [true, false]), (419, [true, false]), (428, [true, false]), (451, [true, false]), (458, [true, false]), (467, [true, false]), (469, [true, true]), (475, [true, true]), (484, [true, true]), (487, [true, true]), (490, [false, false])] jcX11_init 5 rfl h
set_option maxRecDepth 100000 in
theorem gX11_init_122 (d : Nat) (p0 : Int) (m : jM) (Q : Int → jM → Prop)
    (h : (m (-3) 0 < m (-2) (-7) ∧ jKd (m (-3) 0) = 20 ∧ jLn (m (-3) 0) = 24) ∧ (m (-3) 0) = (p0 + 16) ∧ aX11_init_130 d p0 (jUp (jNw m) p0 25 (m (-3) 0)) Q) :
    aX11_init_122 d p0 m Q := jWp_snd [(4, [true, false]), (12, [true, false]), (20, [true, false]), (28, [true, false]), (36, [true, false]), (43, [true, false]), (50, [true, false]), (58, [true, false]), (66, [true, false]), (74, [true, false]), (82, [true, false]), (90, [true, false]), (98, [true, false]), (106, [true, false]), (114, [true, false]), (122, [true, false]), (130, [true, false]), (138, [true, false]), (146, [true, false]), (154, [true, false]), (162, [true, false]), (170, [true, false]), (178, [true, false]), (185, [true, false]), (193, [true, false]), (201, [true, false]), (210, [true, false]), (219, [true, false]), (227, [true, false]), (235, [true, false]), (243, [true, false]), (251, [true, false]), (260, [true, false]), (268, [true, false]), (276, [true, false]), (284, [true, false]), (292, [true, false]), (300, [true, false]), (308, [true, false]), (316, [true, false]), (325, [true, false]), (333, [true, false]), (341, [true, false]), (349, [true, false]), (357, [true, false]), (365, [true, false]), (373, [true, false]), (381, [true, false]), (389, [true, false]), (397, [true, false]), (404, [true, false]), (411, [true, false]), (419, [true, false]), (428, [true, false]), (451, [true, false]), (458, [true, false]), (467, [true, false]), (469, [true, true]), (475, [true, true]), (484, [true, true]), (487, [true, true]), (490, [false, false])] jcX11_init 5 rfl h
set_option maxRecDepth 100000 in
theorem gX11_init_130 (d : Nat) (p0 : Int) (m : jM) (Q : Int → jM → Prop)
    (h : (m (-3) 0 < m (-2) (-7) ∧ jKd (m (-3) 0) = 20 ∧ jLn (m (-3) 0) = 24) ∧ (m (-3) 0) = (p0 + 17) ∧ aX11_init_138 d p0 (jUp (jNw m) p0 26 (m (-3) 0)) Q) :
    aX11_init_130 d p0 m Q := jWp_snd [(4, [true, false]), (12, [true, false]), (20, [true, false]), (28, [true, false]), (36, [true, false]), (43, [true, false]), (50, [true, false]), (58, [true, false]), (66, [true, false]), (74, [true, false]), (82, [true, false]), (90, [true, false]), (98, [true, false]), (106, [true, false]), (114, [true, false]), (122, [true, false]), (130, [true, false]), (138, [true, false]), (146, [true, false]), (154, [true, false]), (162, [true, false]), (170, [true, false]), (178, [true, false]), (185, [true, false]), (193, [true, false]), (201, [true, false]), (210, [true, false]), (219, [true, false]), (227, [true, false]), (235, [true, false]), (243, [true, false]), (251, [true, false]), (260, [true, false]), (268, [true, false]), (276, [true, false]), (284, [true, false]), (292, [true, false]), (300, [true, false]), (308, [true, false]), (316, [true, false]), (325, [true, false]), (333, [true, false]), (341, [true, false]), (349, [true, false]), (357, [true, false]), (365, [true, false]), (373, [true, false]), (381, [true, false]), (389, [true, false]), (397, [true, false]), (404, [true, false]), (411, [true, false]), (419, [true, false]), (428, [true, false]), (451, [true, false]), (458, [true, false]), (467, [true, false]), (469, [true, true]), (475, [true, true]), (484, [true, true]), (487, [true, true]), (490, [false, false])] jcX11_init 5 rfl h
set_option maxRecDepth 100000 in
theorem gX11_init_138 (d : Nat) (p0 : Int) (m : jM) (Q : Int → jM → Prop)
    (h : (m (-3) 0 < m (-2) (-7) ∧ jKd (m (-3) 0) = 20 ∧ jLn (m (-3) 0) = 24) ∧ (m (-3) 0) = (p0 + 18) ∧ aX11_init_146 d p0 (jUp (jNw m) p0 27 (m (-3) 0)) Q) :
    aX11_init_138 d p0 m Q := jWp_snd [(4, [true, false]), (12, [true, false]), (20, [true, false]), (28, [true, false]), (36, [true, false]), (43, [true, false]), (50, [true, false]), (58, [true, false]), (66, [true, false]), (74, [true, false]), (82, [true, false]), (90, [true, false]), (98, [true, false]), (106, [true, false]), (114, [true, false]), (122, [true, false]), (130, [true, false]), (138, [true, false]), (146, [true, false]), (154, [true, false]), (162, [true, false]), (170, [true, false]), (178, [true, false]), (185, [true, false]), (193, [true, false]), (201, [true, false]), (210, [true, false]), (219, [true, false]), (227, [true, false]), (235, [true, false]), (243, [true, false]), (251, [true, false]), (260, [true, false]), (268, [true, false]), (276, [true, false]), (284, [true, false]), (292, [true, false]), (300, [true, false]), (308, [true, false]), (316, [true, false]), (325, [true, false]), (333, [true, false]), (341, [true, false]), (349, [true, false]), (357, [true, false]), (365, [true, false]), (373, [true, false]), (381, [true, false]), (389, [true, false]), (397, [true, false]), (404, [true, false]), (411, [true, false]), (419, [true, false]), (428, [true, false]), (451, [true, false]), (458, [true, false]), (467, [true, false]), (469, [true, true]), (475, [true, true]), (484, [true, true]), (487, [true, true]), (490, [false, false])] jcX11_init 5 rfl h
set_option maxRecDepth 100000 in
theorem gX11_init_146 (d : Nat) (p0 : Int) (m : jM) (Q : Int → jM → Prop)
    (h : (m (-3) 0 < m (-2) (-7) ∧ jKd (m (-3) 0) = 20 ∧ jLn (m (-3) 0) = 24) ∧ (m (-3) 0) = (p0 + 19) ∧ aX11_init_154 d p0 (jUp (jNw m) p0 28 (m (-3) 0)) Q) :
    aX11_init_146 d p0 m Q := jWp_snd [(4, [true, false]), (12, [true, false]), (20, [true, false]), (28, [true, false]), (36, [true, false]), (43, [true, false]), (50, [true, false]), (58, [true, false]), (66, [true, false]), (74, [true, false]), (82, [true, false]), (90, [true, false]), (98, [true, false]), (106, [true, false]), (114, [true, false]), (122, [true, false]), (130, [true, false]), (138, [true, false]), (146, [true, false]), (154, [true, false]), (162, [true, false]), (170, [true, false]), (178, [true, false]), (185, [true, false]), (193, [true, false]), (201, [true, false]), (210, [true, false]), (219, [true, false]), (227, [true, false]), (235, [true, false]), (243, [true, false]), (251, [true, false]), (260, [true, false]), (268, [true, false]), (276, [true, false]), (284, [true, false]), (292, [true, false]), (300, [true, false]), (308, [true, false]), (316, [true, false]), (325, [true, false]), (333, [true, false]), (341, [true, false]), (349, [true, false]), (357, [true, false]), (365, [true, false]), (373, [true, false]), (381, [true, false]), (389, [true, false]), (397, [true, false]), (404, [true, false]), (411, [true, false]), (419, [true, false]), (428, [true, false]), (451, [true, false]), (458, [true, false]), (467, [true, false]), (469, [true, true]), (475, [true, true]), (484, [true, true]), (487, [true, true]), (490, [false, false])] jcX11_init 5 rfl h
set_option maxRecDepth 100000 in
theorem gX11_init_154 (d : Nat) (p0 : Int) (m : jM) (Q : Int → jM → Prop)
    (h : (m (-3) 0 < m (-2) (-7) ∧ jKd (m (-3) 0) = 20 ∧ jLn (m (-3) 0) = 24) ∧ (m (-3) 0) = (p0 + 20) ∧ aX11_init_162 d p0 (jUp (jNw m) p0 29 (m (-3) 0)) Q) :
    aX11_init_154 d p0 m Q := jWp_snd [(4, [true, false]), (12, [true, false]), (20, [true, false]), (28, [true, false]), (36, [true, false]), (43, [true, false]), (50, [true, false]), (58, [true, false]), (66, [true, false]), (74, [true, false]), (82, [true, false]), (90, [true, false]), (98, [true, false]), (106, [true, false]), (114, [true, false]), (122, [true, false]), (130, [true, false]), (138, [true, false]), (146, [true, false]), (154, [true, false]), (162, [true, false]), (170, [true, false]), (178, [true, false]), (185, [true, false]), (193, [true, false]), (201, [true, false]), (210, [true, false]), (219, [true, false]), (227, [true, false]), (235, [true, false]), (243, [true, false]), (251, [true, false]), (260, [true, false]), (268, [true, false]), (276, [true, false]), (284, [true, false]), (292, [true, false]), (300, [true, false]), (308, [true, false]), (316, [true, false]), (325, [true, false]), (333, [true, false]), (341, [true, false]), (349, [true, false]), (357, [true, false]), (365, [true, false]), (373, [true, false]), (381, [true, false]), (389, [true, false]), (397, [true, false]), (404, [true, false]), (411, [true, false]), (419, [true, false]), (428, [true, false]), (451, [true, false]), (458, [true, false]), (467, [true, false]), (469, [true, true]), (475, [true, true]), (484, [true, true]), (487, [true, true]), (490, [false, false])] jcX11_init 5 rfl h
set_option maxRecDepth 100000 in
theorem gX11_init_162 (d : Nat) (p0 : Int) (m : jM) (Q : Int → jM → Prop)
    (h : (m (-3) 0 < m (-2) (-7) ∧ jKd (m (-3) 0) = 20 ∧ jLn (m (-3) 0) = 24) ∧ (m (-3) 0) = (p0 + 21) ∧ aX11_init_170 d p0 (jUp (jNw m) p0 30 (m (-3) 0)) Q) :
    aX11_init_162 d p0 m Q := jWp_snd [(4, [true, false]), (12, [true, false]), (20, [true, false]), (28, [true, false]), (36, [true, false]), (43, [true, false]), (50, [true, false]), (58, [true, false]), (66, [true, false]), (74, [true, false]), (82, [true, false]), (90, [true, false]), (98, [true, false]), (106, [true, false]), (114, [true, false]), (122, [true, false]), (130, [true, false]), (138, [true, false]), (146, [true, false]), (154, [true, false]), (162, [true, false]), (170, [true, false]), (178, [true, false]), (185, [true, false]), (193, [true, false]), (201, [true, false]), (210, [true, false]), (219, [true, false]), (227, [true, false]), (235, [true, false]), (243, [true, false]), (251, [true, false]), (260, [true, false]), (268, [true, false]), (276, [true, false]), (284, [true, false]), (292, [true, false]), (300, [true, false]), (308, [true, false]), (316, [true, false]), (325, [true, false]), (333, [true, false]), (341, [true, false]), (349, [true, false]), (357, [true, false]), (365, [true, false]), (373, [true, false]), (381, [true, false]), (389, [true, false]), (397, [true, false]), (404, [true, false]), (411, [true, false]), (419, [true, false]), (428, [true, false]), (451, [true, false]), (458, [true, false]), (467, [true, false]), (469, [true, true]), (475, [true, true]), (484, [true, true]), (487, [true, true]), (490, [false, false])] jcX11_init 5 rfl h
set_option maxRecDepth 100000 in
theorem gX11_init_170 (d : Nat) (p0 : Int) (m : jM) (Q : Int → jM → Prop)
    (h : (m (-3) 0 < m (-2) (-7) ∧ jKd (m (-3) 0) = 20 ∧ jLn (m (-3) 0) = 24) ∧ (m (-3) 0) = (p0 + 22) ∧ aX11_init_178 d p0 (jUp (jNw m) p0 31 (m (-3) 0)) Q) :
    aX11_init_170 d p0 m Q := jWp_snd [(4, [true, false]), (12, [true, false]), (20, [true, false]), (28, [true, false]), (36, [true, false]), (43, [true, false]), (50, [true, false]), (58, [true, false]), (66, [true, false]), (74, [true, false]), (82, [true, false]), (90, [true, false]), (98, [true, false]), (106, [true, false]), (114, [true, false]), (122, [true, false]), (130, [true, false]), (138, [true, false]), (146, [true, false]), (154, [true, false]), (162, [true, false]), (170, [true, false]), (178, [true, false]), (185, [true, false]), (193, [true, false]), (201, [true, false]), (210, [true, false]), (219, [true, false]), (227, [true, false]), (235, [true, false]), (243, [true, false]), (251, [true, false]), (260, [true, false]), (268, [true, false]), (276, [true, false]), (284, [true, false]), (292, [true, false]), (300, [true, false]), (308, [true, false]), (316, [true, false]), (325, [true, false]), (333, [true, false]), (341, [true, false]), (349, [true, false]), (357, [true, false]), (365, [true, false]), (373, [true, false]), (381, [true, false]), (389, [true, false]), (397, [true, false]), (404, [true, false]), (411, [true, false]), (419, [true, false]), (428, [true, false]), (451, [true, false]), (458, [true, false]), (467, [true, false]), (469, [true, true]), (475, [true, true]), (484, [true, true]), (487, [true, true]), (490, [false, false])] jcX11_init 5 rfl h
set_option maxRecDepth 100000 in
theorem gX11_init_178 (d : Nat) (p0 : Int) (m : jM) (Q : Int → jM → Prop)
    (h : (m (-3) 0 < m (-2) (-7) ∧ jKd (m (-3) 0) = 20 ∧ jLn (m (-3) 0) = 4) ∧ (m (-3) 0) = (p0 + 23) ∧ aX11_init_185 d p0 (jUp (jNw m) p0 32 (m (-3) 0)) Q) :
    aX11_init_178 d p0 m Q := jWp_snd [(4, [true, false]), (12, [true, false]), (20, [true, false]), (28, [true, false]), (36, [true, false]), (43, [true, false]), (50, [true, false]), (58, [true, false]), (66, [true, false]), (74, [true, false]), (82, [true, false]), (90, [true, false]), (98, [true, false]), (106, [true, false]), (114, [true, false]), (122, [true, false]), (130, [true, false]), (138, [true, false]), (146, [true, false]), (154, [true, false]), (162, [true, false]), (170, [true, false]), (178, [true, false]), (185, [true, false]), (193, [true, false]), (201, [true, false]), (210, [true, false]), (219, [true, false]), (227, [true, false]), (235, [true, false]), (243, [true, false]), (251, [true, false]), (260, [true, false]), (268, [true, false]), (276, [true, false]), (284, [true, false]), (292, [true, false]), (300, [true, false]), (308, [true, false]), (316, [true, false]), (325, [true, false]), (333, [true, false]), (341, [true, false]), (349, [true, false]), (357, [true, false]), (365, [true, false]), (373, [true, false]), (381, [true, false]), (389, [true, false]), (397, [true, false]), (404, [true, false]), (411, [true, false]), (419, [true, false]), (428, [true, false]), (451, [true, false]), (458, [true, false]), (467, [true, false]), (469, [true, true]), (475, [true, true]), (484, [true, true]), (487, [true, true]), (490, [false, false])] jcX11_init 5 rfl h
set_option maxRecDepth 100000 in
theorem gX11_init_185 (d : Nat) (p0 : Int) (m : jM) (Q : Int → jM → Prop)
    (h : (m (-3) 0 < m (-2) (-7) ∧ jKd (m (-3) 0) = 21 ∧ jLn (m (-3) 0) = 64) ∧ (m (-3) 0) = (p0 + 24) ∧ aX11_init_193 d p0 (jUp (jNw m) p0 40 (m (-3) 0)) Q) :
    aX11_init_185 d p0 m Q := jWp_snd [(4, [true, false]), (12, [true, false]), (20, [true, false]), (28, [true, false]), (36, [true, false]), (43, [true, false]), (50, [true, false]), (58, [true, false]), (66, [true, false]), (74, [true, false]), (82, [true, false]), (90, [true, false]), (98, [true, false]), (106, [true, false]), (114, [true, false]), (122, [true, false]), (130, [true, false]), (138, [true, false]), (146, [true, false]), (154, [true, false]), (162, [true, false]), (170, [true, false]), (178, [true, false]), (185, [true, false]), (193, [true, false]), (201, [true, false]), (210, [true, false]), (219, [true, false]), (227, [true, false]), (235, [true, false]), (243, [true, false]), (251, [true, false]), (260, [true, false]), (268, [true, false]), (276, [true, false]), (284, [true, false]), (292, [true, false]), (300, [true, false]), (308, [true, false]), (316, [true, false]), (325, [true, false]), (333, [true, false]), (341, [true, false]), (349, [true, false]), (357, [true, false]), (365, [true, false]), (373, [true, false]), (381, [true, false]), (389, [true, false]), (397, [true, false]), (404, [true, false]), (411, [true, false]), (419, [true, false]), (428, [true, false]), (451, [true, false]), (458, [true, false]), (467, [true, false]), (469, [true, true]), (475, [true, true]), (484, [true, true]), (487, [true, true]), (490, [false, false])] jcX11_init 5 rfl h
set_option maxRecDepth 100000 in
theorem gX11_init_193 (d : Nat) (p0 : Int) (m : jM) (Q : Int → jM → Prop)
    (h : (m (-3) 0 < m (-2) (-7) ∧ jKd (m (-3) 0) = 21 ∧ jLn (m (-3) 0) = 64) ∧ (m (-3) 0) = (p0 + 25) ∧ aX11_init_201 d p0 (jUp (jNw m) p0 41 (m (-3) 0)) Q) :
    aX11_init_193 d p0 m Q := jWp_snd [(4, [true, false]), (12, [true, false]), (20, [true, false]), (28, [true, false]), (36, [true, false]), (43, [true, false]), (50, [true, false]), (58, [true, false]), (66, [true, false]), (74, [true, false]), (82, [true, false]), (90, [true, false]), (98, [true, false]), (106, [true, false]), (114, [true, false]), (122, [true, false]), (130, [true, false]), (138, [true, false]), (146, [true, false]), (154, [true, false]), (162, [true, false]), (170, [true, false]), (178, [true, false]), (185, [true, false]), (193, [true, false]), (201, [true, false]), (210, [true, false]), (219, [true, false]), (227, [true, false]), (235, [true, false]), (243, [true, false]), (251, [true, false]), (260, [true, false]), (268, [true, false]), (276, [true, false]), (284, [true, false]), (292, [true, false]), (300, [true, false]), (308, [true, false]), (316, [true, false]), (325, [true, false]), (333, [true, false]), (341, [true, false]), (349, [true, false]), (357, [true, false]), (365, [true, false]), (373, [true, false]), (381, [true, false]), (389, [true, false]), (397, [true, false]), (404, [true, false]), (411, [true, false]), (419, [true, false]), (428, [true, false]), (451, [true, false]), (458, [true, false]), (467, [true, false]), (469, [true, true]), (475, [true, true]), (484, [true, true]), (487, [true, true]), (490, [false, false])] jcX11_init 5 rfl h
set_option maxRecDepth 100000 in
theorem gX11_init_201 (d : Nat) (p0 : Int) (m : jM) (Q : Int → jM → Prop)
    (h : (m (-3) 0 < m (-2) (-7) ∧ jKd (m (-3) 0) = 21 ∧ jLn (m (-3) 0) = 2304) ∧ (m (-3) 0) = (p0 + 26) ∧ aX11_init_210 d p0 (jUp (jNw m) p0 42 (m (-3) 0)) Q) :
    aX11_init_201 d p0 m Q := jWp_snd [(4, [true, false]), (12, [true, false]), (20, [true, false]), (28, [true, false]), (36, [true, false]), (43, [true, false]), (50, [true, false]), (58, [true, false]), (66, [true, false]), (74, [true, false]), (82, [true, false]), (90, [true, false]), (98, [true, false]), (106, [true, false]), (114, [true, false]), (122, [true, false]), (130, [true, false]), (138, [true, false]), (146, [true, false]), (154, [true, false]), (162, [true, false]), (170, [true, false]), (178, [true, false]), (185, [true, false]), (193, [true, false]), (201, [true, false]), (210, [true, false]), (219, [true, false]), (227, [true, false]), (235, [true, false]), (243, [true, false]), (251, [true, false]), (260, [true, false]), (268, [true, false]), (276, [true, false]), (284, [true, false]), (292, [true, false]), (300, [true, false]), (308, [true, false]), (316, [true, false]), (325, [true, false]), (333, [true, false]), (341, [true, false]), (349, [true, false]), (357, [true, false]), (365, [true, false]), (373, [true, false]), (381, [true, false]), (389, [true, false]), (397, [true, false]), (404, [true, false]), (411, [true, false]), (419, [true, false]), (428, [true, false]), (451, [true, false]), (458, [true, false]), (467, [true, false]), (469, [true, true]), (475, [true, true]), (484, [true, true]), (487, [true, true]), (490, [false, false])] jcX11_init 5 rfl h
set_option maxRecDepth 100000 in
theorem gX11_init_210 (d : Nat) (p0 : Int) (m : jM) (Q : Int → jM → Prop)
    (h : (m (-3) 0 < m (-2) (-7) ∧ jKd (m (-3) 0) = 20 ∧ jLn (m (-3) 0) = 2304) ∧ (m (-3) 0) = (p0 + 27) ∧ aX11_init_219 d p0 (jUp (jNw m) p0 43 (m (-3) 0)) Q) :
    aX11_init_210 d p0 m Q := jWp_snd [(4, [true, false]), (12, [true, false]), (20, [true, false]), (28, [true, false]), (36, [true, false]), (43, [true, false]), (50, [true, false]), (58, [true, false]), (66, [true, false]), (74, [true, false]), (82, [true, false]), (90, [true, false]), (98, [true, false]), (106, [true, false]), (114, [true, false]), (122, [true, false]), (130, [true, false]), (138, [true, false]), (146, [true, false]), (154, [true, false]), (162, [true, false]), (170, [true, false]), (178, [true, false]), (185, [true, false]), (193, [true, false]), (201, [true, false]), (210, [true, false]), (219, [true, false]), (227, [true, false]), (235, [true, false]), (243, [true, false]), (251, [true, false]), (260, [true, false]), (268, [true, false]), (276, [true, false]), (284, [true, false]), (292, [true, false]), (300, [true, false]), (308, [true, false]), (316, [true, false]), (325, [true, false]), (333, [true, false]), (341, [true, false]), (349, [true, false]), (357, [true, false]), (365, [true, false]), (373, [true, false]), (381, [true, false]), (389, [true, false]), (397, [true, false]), (404, [true, false]), (411, [true, false]), (419, [true, false]), (428, [true, false]), (451, [true, false]), (458, [true, false]), (467, [true, false]), (469, [true, true]), (475, [true, true]), (484, [true, true]), (487, [true, true]), (490, [false, false])] jcX11_init 5 rfl h
set_option maxRecDepth 100000 in
theorem gX11_init_219 (d : Nat) (p0 : Int) (m : jM) (Q : Int → jM → Prop)
    (h : (m (-3) 0 < m (-2) (-7) ∧ jKd (m (-3) 0) = 20 ∧ jLn (m (-3) 0) = 8) ∧ (m (-3) 0) = (p0 + 28) ∧ aX11_init_227 d p0 (jUp (jNw m) p0 44 (m (-3) 0)) Q) :
    aX11_init_219 d p0 m Q := jWp_snd [(4, [true, false]), (12, [true, false]), (20, [true, false]), (28, [true, false]), (36, [true, false]), (43, [true, false]), (50, [true, false]), (58, [true, false]), (66, [true, false]), (74, [true, false]), (82, [true, false]), (90, [true, false]), (98, [true, false]), (106, [true, false]), (114, [true, false]), (122, [true, false]), (130, [true, false]), (138, [true, false]), (146, [true, false]), (154, [true, false]), (162, [true, false]), (170, [true, false]), (178, [true, false]), (185, [true, false]), (193, [true, false]), (201, [true, false]), (210, [true, false]), (219, [true, false]), (227, [true, false]), (235, [true, false]), (243, [true, false]), (251, [true, false]), (260, [true, false]), (268, [true, false]), (276, [true, false]), (284, [true, false]), (292, [true, false]), (300, [true, false]), (308, [true, false]), (316, [true, false]), (325, [true, false]), (333, [true, false]), (341, [true, false]), (349, [true, false]), (357, [true, false]), (365, [true, false]), (373, [true, false]), (381, [true, false]), (389, [true, false]), (397, [true, false]), (404, [true, false]), (411, [true, false]), (419, [true, false]), (428, [true, false]), (451, [true, false]), (458, [true, false]), (467, [true, false]), (469, [true, true]), (475, [true, true]), (484, [true, true]), (487, [true, true]), (490, [false, false])] jcX11_init 5 rfl h
set_option maxRecDepth 100000 in
theorem gX11_init_227 (d : Nat) (p0 : Int) (m : jM) (Q : Int → jM → Prop)
    (h : (m (-3) 0 < m (-2) (-7) ∧ jKd (m (-3) 0) = 21 ∧ jLn (m (-3) 0) = 8) ∧ (m (-3) 0) = (p0 + 29) ∧ aX11_init_235 d p0 (jUp (jNw m) p0 45 (m (-3) 0)) Q) :
    aX11_init_227 d p0 m Q := jWp_snd [(4, [true, false]), (12, [true, false]), (20, [true, false]), (28, [true, false]), (36, [true, false]), (43, [true, false]), (50, [true, false]), (58, [true, false]), (66, [true, false]), (74, [true, false]), (82, [true, false]), (90, [true, false]), (98, [true, false]), (106, [true, false]), (114, [true, false]), (122, [true, false]), (130, [true, false]), (138, [true, false]), (146, [true, false]), (154, [true, false]), (162, [true, false]), (170, [true, false]), (178, [true, false]), (185, [true, false]), (193, [true, false]), (201, [true, false]), (210, [true, false]), (219, [true, false]), (227, [true, false]), (235, [true, false]), (243, [true, false]), (251, [true, false]), (260, [true, false]), (268, [true, false]), (276, [true, false]), (284, [true, false]), (292, [true, false]), (300, [true, false]), (308, [true, false]), (316, [true, false]), (325, [true, false]), (333, [true, false]), (341, [true, false]), (349, [true, false]), (357, [true, false]), (365, [true, false]), (373, [true, false]), (381, [true, false]), (389, [true, false]), (397, [true, false]), (404, [true, false]), (411, [true, false]), (419, [true, false]), (428, [true, false]), (451, [true, false]), (458, [true, false]), (467, [true, false]), (469, [true, true]), (475, [true, true]), (484, [true, true]), (487, [true, true]), (490, [false, false])] jcX11_init 5 rfl h
set_option maxRecDepth 100000 in
theorem gX11_init_235 (d : Nat) (p0 : Int) (m : jM) (Q : Int → jM → Prop)
    (h : (m (-3) 0 < m (-2) (-7) ∧ jKd (m (-3) 0) = 21 ∧ jLn (m (-3) 0) = 13) ∧ (m (-3) 0) = (p0 + 30) ∧ aX11_init_243 d p0 (jUp (jNw m) p0 46 (m (-3) 0)) Q) :
    aX11_init_235 d p0 m Q := jWp_snd [(4, [true, false]), (12, [true, false]), (20, [true, false]), (28, [true, false]), (36, [true, false]), (43, [true, false]), (50, [true, false]), (58, [true, false]), (66, [true, false]), (74, [true, false]), (82, [true, false]), (90, [true, false]), (98, [true, false]), (106, [true, false]), (114, [true, false]), (122, [true, false]), (130, [true, false]), (138, [true, false]), (146, [true, false]), (154, [true, false]), (162, [true, false]), (170, [true, false]), (178, [true, false]), (185, [true, false]), (193, [true, false]), (201, [true, false]), (210, [true, false]), (219, [true, false]), (227, [true, false]), (235, [true, false]), (243, [true, false]), (251, [true, false]), (260, [true, false]), (268, [true, false]), (276, [true, false]), (284, [true, false]), (292, [true, false]), (300, [true, false]), (308, [true, false]), (316, [true, false]), (325, [true, false]), (333, [true, false]), (341, [true, false]), (349, [true, false]), (357, [true, false]), (365, [true, false]), (373, [true, false]), (381, [true, false]), (389, [true, false]), (397, [true, false]), (404, [true, false]), (411, [true, false]), (419, [true, false]), (428, [true, false]), (451, [true, false]), (458, [true, false]), (467, [true, false]), (469, [true, true]), (475, [true, true]), (484, [true, true]), (487, [true, true]), (490, [false, false])] jcX11_init 5 rfl h
set_option maxRecDepth 100000 in
theorem gX11_init_243 (d : Nat) (p0 : Int) (m : jM) (Q : Int → jM → Prop)
    (h : (m (-3) 0 < m (-2) (-7) ∧ jKd (m (-3) 0) = 20 ∧ jLn (m (-3) 0) = 104) ∧ (m (-3) 0) = (p0 + 31) ∧ aX11_init_251 d p0 (jUp (jNw m) p0 47 (m (-3) 0)) Q) :
    aX11_init_243 d p0 m Q := jWp_snd [(4, [true, false]), (12, [true, false]), (20, [true, false]), (28, [true, false]), (36, [true, false]), (43, [true, false]), (50, [true, false]), (58, [true, false]), (66, [true, false]), (74, [true, false]), (82, [true, false]), (90, [true, false]), (98, [true, false]), (106, [true, false]), (114, [true, false]), (122, [true, false]), (130, [true, false]), (138, [true, false]), (146, [true, false]), (154, [true, false]), (162, [true, false]), (170, [true, false]), (178, [true, false]), (185, [true, false]), (193, [true, false]), (201, [true, false]), (210, [true, false]), (219, [true, false]), (227, [true, false]), (235, [true, false]), (243, [true, false]), (251, [true, false]), (260, [true, false]), (268, [true, false]), (276, [true, false]), (284, [true, false]), (292, [true, false]), (300, [true, false]), (308, [true, false]), (316, [true, false]), (325, [true, false]), (333, [true, false]), (341, [true, false]), (349, [true, false]), (357, [true, false]), (365, [true, false]), (373, [true, false]), (381, [true, false]), (389, [true, false]), (397, [true, false]), (404, [true, false]), (411, [true, false]), (419, [true, false]), (428, [true, false]), (451, [true, false]), (458, [true, false]), (467, [true, false]), (469, [true, true]), (475, [true, true]), (484, [true, true]), (487, [true, true]), (490, [false, false])] jcX11_init 5 rfl h
set_option maxRecDepth 100000 in
theorem gX11_init_251 (d : Nat) (p0 : Int) (m : jM) (Q : Int → jM → Prop)
    (h : (m (-3) 0 < m (-2) (-7) ∧ jKd (m (-3) 0) = 21 ∧ jLn (m (-3) 0) = 2304) ∧ (m (-3) 0) = (p0 + 32) ∧ aX11_init_260 d p0 (jUp (jNw m) p0 49 (m (-3) 0)) Q) :
    aX11_init_251 d p0 m Q := jWp_snd [(4, [true, false]), (12, [true, false]), (20, [true, false]), (28, [true, false]), (36, [true, false]), (43, [true, false]), (50, [true, false]), (58, [true, false]), (66, [true, false]), (74, [true, false]), (82, [true, false]), (90, [true, false]), (98, [true, false]), (106, [true, false]), (114, [true, false]), (122, [true, false]), (130, [true, false]), (138, [true, false]), (146, [true, false]), (154, [true, false]), (162, [true, false]), (170, [true, false]), (178, [true, false]), (185, [true, false]), (193, [true, false]), (201, [true, false]), (210, [true, false]), (219, [true, false]), (227, [true, false]), (235, [true, false]), (243, [true, false]), (251, [true, false]), (260, [true, false]), (268, [true, false]), (276, [true, false]), (284, [true, false]), (292, [true, false]), (300, [true, false]), (308, [true, false]), (316, [true, false]), (325, [true, false]), (333, [true, false]), (341, [true, false]), (349, [true, false]), (357, [true, false]), (365, [true, false]), (373, [true, false]), (381, [true, false]), (389, [true, false]), (397, [true, false]), (404, [true, false]), (411, [true, false]), (419, [true, false]), (428, [true, false]), (451, [true, false]), (458, [true, false]), (467, [true, false]), (469, [true, true]), (475, [true, true]), (484, [true, true]), (487, [true, true]), (490, [false, false])] jcX11_init 5 rfl h
set_option maxRecDepth 100000 in
theorem gX11_init_260 (d : Nat) (p0 : Int) (m : jM) (Q : Int → jM → Prop)
    (h : (m (-3) 0 < m (-2) (-7) ∧ jKd (m (-3) 0) = 21 ∧ jLn (m (-3) 0) = 8) ∧ (m (-3) 0) = (p0 + 33) ∧ aX11_init_268 d p0 (jUp (jNw m) p0 51 (m (-3) 0)) Q) :
    aX11_init_260 d p0 m Q := jWp_snd [(4, [true, false]), (12, [true, false]), (20, [true, false]), (28, [true, false]), (36, [true, false]), (43, [true, false]), (50, [true, false]), (58, [true, false]), (66, [true, false]), (74, [true, false]), (82, [true, false]), (90, [true, false]), (98, [true, false]), (106, [true, false]), (114, [true, false]), (122, [true, false]), (130, [true, false]), (138, [true, false]), (146, [true, false]), (154, [true, false]), (162, [true, false]), (170, [true, false]), (178, [true, false]), (185, [true, false]), (193, [true, false]), (201, [true, false]), (210, [true, false]), (219, [true, false]), (227, [true, false]), (235, [true, false]), (243, [true, false]), (251, [true, false]), (260, [true, false]), (268, [true, false]), (276, [true, false]), (284, [true, false]), (292, [true, false]), (300, [true, false]), (308, [true, false]), (316, [true, false]), (325, [true, false]), (333, [true, false]), (341, [true, false]), (349, [true, false]), (357, [true, false]), (365, [true, false]), (373, [true, false]), (381, [true, false]), (389, [true, false]), (397, [true, false]), (404, [true, false]), (411, [true, false]), (419, [true, false]), (428, [true, false]), (451, [true, false]), (458, [true, false]), (467, [true, false]), (469, [true, true]), (475, [true, true]), (484, [true, true]), (487, [true, true]), (490, [false, false])] jcX11_init 5 rfl h
set_option maxRecDepth 100000 in
theorem gX11_init_268 (d : Nat) (p0 : Int) (m : jM) (Q : Int → jM → Prop)
    (h : (m (-3) 0 < m (-2) (-7) ∧ jKd (m (-3) 0) = 21 ∧ jLn (m (-3) 0) = 8) ∧ (m (-3) 0) = (p0 + 34) ∧ aX11_init_276 d p0 (jUp (jNw m) p0 52 (m (-3) 0)) Q) :
    aX11_init_268 d p0 m Q := jWp_snd [(4, [true, false]), (12, [true, false]), (20, [true, false]), (28, [true, false]), (36, [true, false]), (43, [true, false]), (50, [true, false]), (58, [true, false]), (66, [true, false]), (74, [true, false]), (82, [true, false]), (90, [true, false]), (98, [true, false]), (106, [true, false]), (114, [true, false]), (122, [true, false]), (130, [true, false]), (138, [true, false]), (146, [true, false]), (154, [true, false]), (162, [true, false]), (170, [true, false]), (178, [true, false]), (185, [true, false]), (193, [true, false]), (201, [true, false]), (210, [true, false]), (219, [true, false]), (227, [true, false]), (235, [true, false]), (243, [true, false]), (251, [true, false]), (260, [true, false]), (268, [true, false]), (276, [true, false]), (284, [true, false]), (292, [true, false]), (300, [true, false]), (308, [true, false]), (316, [true, false]), (325, [true, false]), (333, [true, false]), (341, [true, false]), (349, [true, false]), (357, [true, false]), (365, [true, false]), (373, [true, false]), (381, [true, false]), (389, [true, false]), (397, [true, false]), (404, [true, false]), (411, [true, false]), (419, [true, false]), (428, [true, false]), (451, [true, false]), (458, [true, false]), (467, [true, false]), (469, [true, true]), (475, [true, true]), (484, [true, true]), (487, [true, true]), (490, [false, false])] jcX11_init 5 rfl h
set_option maxRecDepth 100000 in
theorem gX11_init_276 (d : Nat) (p0 : Int) (m : jM) (Q : Int → jM → Prop)
    (h : (m (-3) 0 < m (-2) (-7) ∧ jKd (m (-3) 0) = 20 ∧ jLn (m (-3) 0) = 120) ∧ (m (-3) 0) = (p0 + 35) ∧ aX11_init_284 d p0 (jUp (jNw m) p0 53 (m (-3) 0)) Q) :
    aX11_init_276 d p0 m Q := jWp_snd [(4, [true, false]), (12, [true, false]), (20, [true, false]), (28, [true, false]), (36, [true, false]), (43, [true, false]), (50, [true, false]), (58, [true, false]), (66, [true, false]), (74, [true, false]), (82, [true, false]), (90, [true, false]), (98, [true, false]), (106, [true, false]), (114, [true, false]), (122, [true, false]), (130, [true, false]), (138, [true, false]), (146, [true, false]), (154, [true, false]), (162, [true, false]), (170, [true, false]), (178, [true, false]), (185, [true, false]), (193, [true, false]), (201, [true, false]), (210, [true, false]), (219, [true, false]), (227, [true, false]), (235, [true, false]), (243, [true, false]), (251, [true, false]), (260, [true, false]), (268, [true, false]), (276, [true, false]), (284, [true, false]), (292, [true, false]), (300, [true, false]), (308, [true, false]), (316, [true, false]), (325, [true, false]), (333, [true, false]), (341, [true, false]), (349, [true, false]), (357, [true, false]), (365, [true, false]), (373, [true, false]), (381, [true, false]), (389, [true, false]), (397, [true, false]), (404, [true, false]), (411, [true, false]), (419, [true, false]), (428, [true, false]), (451, [true, false]), (458, [true, false]), (467, [true, false]), (469, [true, true]), (475, [true, true]), (484, [true, true]), (487, [true, true]), (490, [false, false])] jcX11_init 5 rfl h
set_option maxRecDepth 100000 in
theorem gX11_init_284 (d : Nat) (p0 : Int) (m : jM) (Q : Int → jM → Prop)
    (h : (m (-3) 0 < m (-2) (-7) ∧ jKd (m (-3) 0) = 20 ∧ jLn (m (-3) 0) = 120) ∧ (m (-3) 0) = (p0 + 36) ∧ aX11_init_292 d p0 (jUp (jNw m) p0 54 (m (-3) 0)) Q) :
    aX11_init_284 d p0 m Q := jWp_snd [(4, [true, false]), (12, [true, false]), (20, [true, false]), (28, [true, false]), (36, [true, false]), (43, [true, false]), (50, [true, false]), (58, [true, false]), (66, [true, false]), (74, [true, false]), (82, [true, false]), (90, [true, false]), (98, [true, false]), (106, [true, false]), (114, [true, false]), (122, [true, false]), (130, [true, false]), (138, [true, false]), (146, [true, false]), (154, [true, false]), (162, [true, false]), (170, [true, false]), (178, [true, false]), (185, [true, false]), (193, [true, false]), (201, [true, false]), (210, [true, false]), (219, [true, false]), (227, [true, false]), (235, [true, false]), (243, [true, false]), (251, [true, false]), (260, [true, false]), (268, [true, false]), (276, [true, false]), (284, [true, false]), (292, [true, false]), (300, [true, false]), (308, [true, false]), (316, [true, false]), (325, [true, false]), (333, [true, false]), (341, [true, false]), (349, [true, false]), (357, [true, false]), (365, [true, false]), (373, [true, false]), (381, [true, false]), (389, [true, false]), (397, [true, false]), (404, [true, false]), (411, [true, false]), (419, [true, false]), (428, [true, false]), (451, [true, false]), (458, [true, false]), (467, [true, false]), (469, [true, true]), (475, [true, true]), (484, [true, true]), (487, [true, true]), (490, [false, false])] jcX11_init 5 rfl h
set_option maxRecDepth 100000 in
theorem gX11_init_292 (d : Nat) (p0 : Int) (m : jM) (Q : Int → jM → Prop)
    (h : (m (-3) 0 < m (-2) (-7) ∧ jKd (m (-3) 0) = 20 ∧ jLn (m (-3) 0) = 120) ∧ (m (-3) 0) = (p0 + 37) ∧ aX11_init_300 d p0 (jUp (jNw m) p0 55 (m (-3) 0)) Q) :
    aX11_init_292 d p0 m Q := jWp_snd [(4, [true, false]), (12, [true, false]), (20, [true, false]), (28, [true, false]), (36, [true, false]), (43, [true, false]), (50, [true, false]), (58, [true, false]), (66, [true, false]), (74, [true, false]), (82, [true, false]), (90, [true, false]), (98, [true, false]), (106, [true, false]), (114, [true, false]), (122, [true, false]), (130, [true, false]), (138, [true, false]), (146, [true, false]), (154, [true, false]), (162, [true, false]), (170, [true, false]), (178, [true, false]), (185, [true, false]), (193, [true, false]), (201, [true, false]), (210, [true, false]), (219, [true, false]), (227, [true, false]), (235, [true, false]), (243, [true, false]), (251, [true, false]), (260, [true, false]), (268, [true, false]), (276, [true, false]), (284, [true, false]), (292, [true, false]), (300, [true, false]), (308, [true, false]), (316, [true, false]), (325, [true, false]), (333, [true, false]), (341, [true, false]), (349, [true, false]), (357, [true, false]), (365, [true, false]), (373, [true, false]), (381, [true, false]), (389, [true, false]), (397, [true, false]), (404, [true, false]), (411, [true, false]), (419, [true, false]), (428, [true, false]), (451, [true, false]), (458, [true, false]), (467, [true, false]), (469, [true, true]), (475, [true, true]), (484, [true, true]), (487, [true, true]), (490, [false, false])] jcX11_init 5 rfl h
set_option maxRecDepth 100000 in
theorem gX11_init_300 (d : Nat) (p0 : Int) (m : jM) (Q : Int → jM → Prop)
    (h : (m (-3) 0 < m (-2) (-7) ∧ jKd (m (-3) 0) = 20 ∧ jLn (m (-3) 0) = 120) ∧ (m (-3) 0) = (p0 + 38) ∧ aX11_init_308 d p0 (jUp (jNw m) p0 56 (m (-3) 0)) Q) :
    aX11_init_300 d p0 m Q := jWp_snd [(4, [true, false]), (12, [true, false]), (20, [true, false]), (28, [true, false]), (36, [true, false]), (43, [true, false]), (50, [true, false]), (58, [true, false]), (66, [true, false]), (74, [true, false]), (82, [true, false]), (90, [true, false]), (98, [true, false]), (106, [true, false]), (114, [true, false]), (122, [true, false]), (130, [true, false]), (138, [true, false]), (146, [true, false]), (154, [true, false]), (162, [true, false]), (170, [true, false]), (178, [true, false]), (185, [true, false]), (193, [true, false]), (201, [true, false]), (210, [true, false]), (219, [true, false]), (227, [true, false]), (235, [true, false]), (243, [true, false]), (251, [true, false]), (260, [true, false]), (268, [true, false]), (276, [true, false]), (284, [true, false]), (292, [true, false]), (300, [true, false]), (308, [true, false]), (316, [true, false]), (325, [true, false]), (333, [true, false]), (341, [true, false]), (349, [true, false]), (357, [true, false]), (365, [true, false]), (373, [true, false]), (381, [true, false]), (389, [true, false]), (397, [true, false]), (404, [true, false]), (411, [true, false]), (419, [true, false]), (428, [true, false]), (451, [true, false]), (458, [true, false]), (467, [true, false]), (469, [true, true]), (475, [true, true]), (484, [true, true]), (487, [true, true]), (490, [false, false])] jcX11_init 5 rfl h
set_option maxRecDepth 100000 in
theorem gX11_init_308 (d : Nat) (p0 : Int) (m : jM) (Q : Int → jM → Prop)
    (h : (m (-3) 0 < m (-2) (-7) ∧ jKd (m (-3) 0) = 21 ∧ jLn (m (-3) 0) = 120) ∧ (m (-3) 0) = (p0 + 39) ∧ aX11_init_316 d p0 (jUp (jNw m) p0 57 (m (-3) 0)) Q) :
    aX11_init_308 d p0 m Q := jWp_snd [(4, [true, false]), (12, [true, false]), (20, [true, false]), (28, [true, false]), (36, [true, false]), (43, [true, false]), (50, [true, false]), (58, [true, false]), (66, [true, false]), (74, [true, false]), (82, [true, false]), (90, [true, false]), (98, [true, false]), (106, [true, false]), (114, [true, false]), (122, [true, false]), (130, [true, false]), (138, [true, false]), (146, [true, false]), (154, [true, false]), (162, [true, false]), (170, [true, false]), (178, [true, false]), (185, [true, false]), (193, [true, false]), (201, [true, false]), (210, [true, false]), (219, [true, false]), (227, [true, false]), (235, [true, false]), (243, [true, false]), (251, [true, false]), (260, [true, false]), (268, [true, false]), (276, [true, false]), (284, [true, false]), (292, [true, false]), (300, [true, false]), (308, [true, false]), (316, [true, false]), (325, [true, false]), (333, [true, false]), (341, [true, false]), (349, [true, false]), (357, [true, false]), (365, [true, false]), (373, [true, false]), (381, [true, false]), (389, [true, false]), (397, [true, false]), (404, [true, false]), (411, [true, false]), (419, [true, false]), (428, [true, false]), (451, [true, false]), (458, [true, false]), (467, [true, false]), (469, [true, true]), (475, [true, true]), (484, [true, true]), (487, [true, true]), (490, [false, false])] jcX11_init 5 rfl h
set_option maxRecDepth 100000 in
theorem gX11_init_316 (d : Nat) (p0 : Int) (m : jM) (Q : Int → jM → Prop)
    (h : (m (-3) 0 < m (-2) (-7) ∧ jKd (m (-3) 0) = 21 ∧ jLn (m (-3) 0) = 1920) ∧ (m (-3) 0) = (p0 + 40) ∧ aX11_init_325 d p0 (jUp (jNw m) p0 58 (m (-3) 0)) Q) :
    aX11_init_316 d p0 m Q := jWp_snd [(4, [true, false]), (12, [true, false]), (20, [true, false]), (28, [true, false]), (36, [true, false]), (43, [true, false]), (50, [true, false]), (58, [true, false]), (66, [true, false]), (74, [true, false]), (82, [true, false]), (90, [true, false]), (98, [true, false]), (106, [true, false]), (114, [true, false]), (122, [true, false]), (130, [true, false]), (138, [true, false]), (146, [true, false]), (154, [true, false]), (162, [true, false]), (170, [true, false]), (178, [true, false]), (185, [true, false]), (193, [true, false]), (201, [true, false]), (210, [true, false]), (219, [true, false]), (227, [true, false]), (235, [true, false]), (243, [true, false]), (251, [true, false]), (260, [true, false]), (268, [true, false]), (276, [true, false]), (284, [true, false]), (292, [true, false]), (300, [true, false]), (308, [true, false]), (316, [true, false]), (325, [true, false]), (333, [true, false]), (341, [true, false]), (349, [true, false]), (357, [true, false]), (365, [true, false]), (373, [true, false]), (381, [true, false]), (389, [true, false]), (397, [true, false]), (404, [true, false]), (411, [true, false]), (419, [true, false]), (428, [true, false]), (451, [true, false]), (458, [true, false]), (467, [true, false]), (469, [true, true]), (475, [true, true]), (484, [true, true]), (487, [true, true]), (490, [false, false])] jcX11_init 5 rfl h
set_option maxRecDepth 100000 in
theorem gX11_init_325 (d : Nat) (p0 : Int) (m : jM) (Q : Int → jM → Prop)
    (h : (m (-3) 0 < m (-2) (-7) ∧ jKd (m (-3) 0) = 20 ∧ jLn (m (-3) 0) = 8) ∧ (m (-3) 0) = (p0 + 41) ∧ aX11_init_333 d p0 (jUp (jNw m) p0 59 (m (-3) 0)) Q) :
    aX11_init_325 d p0 m Q := jWp_snd [(4, [true, false]), (12, [true, false]), (20, [true, false]), (28, [true, false]), (36, [true, false]), (43, [true, false]), (50, [true, false]), (58, [true, false]), (66, [true, false]), (74, [true, false]), (82, [true, false]), (90, [true, false]), (98, [true, false]), (106, [true, false]), (114, [true, false]), (122, [true, false]), (130, [true, false]), (138, [true, false]), (146, [true, false]), (154, [true, false]), (162, [true, false]), (170, [true, false]), (178, [true, false]), (185, [true, false]), (193, [true, false]), (201, [true, false]), (210, [true, false]), (219, [true, false]), (227, [true, false]), (235, [true, false]), (243, [true, false]), (251, [true, false]), (260, [true, false]), (268, [true, false]), (276, [true, false]), (284, [true, false]), (292, [true, false]), (300, [true, false]), (308, [true, false]), (316, [true, false]), (325, [true, false]), (333, [true, false]), (341, [true, false]), (349, [true, false]), (357, [true, false]), (365, [true, false]), (373, [true, false]), (381, [true, false]), (389, [true, false]), (397, [true, false]), (404, [true, false]), (411, [true, false]), (419, [true, false]), (428, [true, false]), (451, [true, false]), (458, [true, false]), (467, [true, false]), (469, [true, true]), (475, [true, true]), (484, [true, true]), (487, [true, true]), (490, [false, false])] jcX11_init 5 rfl h
set_option maxRecDepth 100000 in
theorem gX11_init_333 (d : Nat) (p0 : Int) (m : jM) (Q : Int → jM → Prop)
    (h : (m (-3) 0 < m (-2) (-7) ∧ jKd (m (-3) 0) = 20 ∧ jLn (m (-3) 0) = 8) ∧ (m (-3) 0) = (p0 + 42) ∧ aX11_init_341 d p0 (jUp (jNw m) p0 60 (m (-3) 0)) Q) :
    aX11_init_333 d p0 m Q := jWp_snd [(4, [true, false]), (12, [true, false]), (20, [true, false]), (28, [true, false]), (36, [true, false]), (43, [true, false]), (50, [true, false]), (58, [true, false]), (66, [true, false]), (74, [true, false]), (82, [true, false]), (90, [true, false]), (98, [true, false]), (106, [true, false]), (114, [true, false]), (122, [true, false]), (130, [true, false]), (138, [true, false]), (146, [true, false]), (154, [true, false]), (162, [true, false]), (170, [true, false]), (178, [true, false]), (185, [true, false]), (193, [true, false]), (201, [true, false]), (210, [true, false]), (219, [true, false]), (227, [true, false]), (235, [true, false]), (243, [true, false]), (251, [true, false]), (260, [true, false]), (268, [true, false]), (276, [true, false]), (284, [true, false]), (292, [true, false]), (300, [true, false]), (308, [true, false]), (316, [true, false]), (325, [true, false]), (333, [true, false]), (341, [true, false]), (349, [true, false]), (357, [true, false]), (365, [true, false]), (373, [true, false]), (381, [true, false]), (389, [true, false]), (397, [true, false]), (404, [true, false]), (411, [true, false]), (419, [true, false]), (428, [true, false]), (451, [true, false]), (458, [true, false]), (467, [true, false]), (469, [true, true]), (475, [true, true]), (484, [true, true]), (487, [true, true]), (490, [false, false])] jcX11_init 5 rfl h
set_option maxRecDepth 100000 in
theorem gX11_init_341 (d : Nat) (p0 : Int) (m : jM) (Q : Int → jM → Prop)
    (h : (m (-3) 0 < m (-2) (-7) ∧ jKd (m (-3) 0) = 20 ∧ jLn (m (-3) 0) = 120) ∧ (m (-3) 0) = (p0 + 43) ∧ aX11_init_349 d p0 (jUp (jNw m) p0 65 (m (-3) 0)) Q) :
    aX11_init_341 d p0 m Q := jWp_snd [(4, [true, false]), (12, [true, false]), (20, [true, false]), (28, [true, false]), (36, [true, false]), (43, [true, false]), (50, [true, false]), (58, [true, false]), (66, [true, false]), (74, [true, false]), (82, [true, false]), (90, [true, false]), (98, [true, false]), (106, [true, false]), (114, [true, false]), (122, [true, false]), (130, [true, false]), (138, [true, false]), (146, [true, false]), (154, [true, false]), (162, [true, false]), (170, [true, false]), (178, [true, false]), (185, [true, false]), (193, [true, false]), (201, [true, false]), (210, [true, false]), (219, [true, false]), (227, [true, false]), (235, [true, false]), (243, [true, false]), (251, [true, false]), (260, [true, false]), (268, [true, false]), (276, [true, false]), (284, [true, false]), (292, [true, false]), (300, [true, false]), (308, [true, false]), (316, [true, false]), (325, [true, false]), (333, [true, false]), (341, [true, false]), (349, [true, false]), (357, [true, false]), (365, [true, false]), (373, [true, false]), (381, [true, false]), (389, [true, false]), (397, [true, false]), (404, [true, false]), (411, [true, false]), (419, [true, false]), (428, [true, false]), (451, [true, false]), (458, [true, false]), (467, [true, false]), (469, [true, true]), (475, [true, true]), (484, [true, true]), (487, [true, true]), (490, [false, false])] jcX11_init 5 rfl h
set_option maxRecDepth 100000 in
theorem gX11_init_349 (d : Nat) (p0 : Int) (m : jM) (Q : Int → jM → Prop)
    (h : (m (-3) 0 < m (-2) (-7) ∧ jKd (m (-3) 0) = 20 ∧ jLn (m (-3) 0) = 64) ∧ (m (-3) 0) = (p0 + 44) ∧ aX11_init_357 d p0 (jUp (jNw m) p0 66 (m (-3) 0)) Q) :
    aX11_init_349 d p0 m Q := jWp_snd [(4, [true, false]), (12, [true, false]), (20, [true, false]), (28, [true, false]), (36, [true, false]), (43, [true, false]), (50, [true, false]), (58, [true, false]), (66, [true, false]), (74, [true, false]), (82, [true, false]), (90, [true, false]), (98, [true, false]), (106, [true, false]), (114, [true, false]), (122, [true, false]), (130, [true, false]), (138, [true, false]), (146, [true, false]), (154, [true, false]), (162, [true, false]), (170, [true, false]), (178, [true, false]), (185, [true, false]), (193, [true, false]), (201, [true, false]), (210, [true, false]), (219, [true, false]), (227, [true, false]), (235, [true, false]), (243, [true, false]), (251, [true, false]), (260, [true, false]), (268, [true, false]), (276, [true, false]), (284, [true, false]), (292, [true, false]), (300, [true, false]), (308, [true, false]), (316, [true, false]), (325, [true, false]), (333, [true, false]), (341, [true, false]), (349, [true, false]), (357, [true, false]), (365, [true, false]), (373, [true, false]), (381, [true, false]), (389, [true, false]), (397, [true, false]), (404, [true, false]), (411, [true, false]), (419, [true, false]), (428, [true, false]), (451, [true, false]), (458, [true, false]), (467, [true, false]), (469, [true, true]), (475, [true, true]), (484, [true, true]), (487, [true, true]), (490, [false, false])] jcX11_init 5 rfl h
set_option maxRecDepth 100000 in
theorem gX11_init_357 (d : Nat) (p0 : Int) (m : jM) (Q : Int → jM → Prop)
    (h : (m (-3) 0 < m (-2) (-7) ∧ jKd (m (-3) 0) = 20 ∧ jLn (m (-3) 0) = 8) ∧ (m (-3) 0) = (p0 + 45) ∧ aX11_init_365 d p0 (jUp (jNw m) p0 67 (m (-3) 0)) Q) :
    aX11_init_357 d p0 m Q := jWp_snd [(4, [true, false]), (12, [true, false]), (20, [true, false]), (28, [true, false]), (36, [true, false]), (43, [true, false]), (50, [true, false]), (58, [true, false]), (66, [true, false]), (74, [true, false]), (82, [true, false]), (90, [true, false]), (98, [true, false]), (106, [true, false]), (114, [true, false]), (122, [true, false]), (130, [true, false]), (138, [true, false]), (146, [true, false]), (154, [true, false]), (162, [true, false]), (170, [true, false]), (178, [true, false]), (185, [true, false]), (193, [true, false]), (201, [true, false]), (210, [true, false]), (219, [true, false]), (227, [true, false]), (235, [true, false]), (243, [true, false]), (251, [true, false]), (260, [true, false]), (268, [true, false]), (276, [true, false]), (284, [true, false]), (292, [true, false]), (300, [true, false]), (308, [true, false]), (316, [true, false]), (325, [true, false]), (333, [true, false]), (341, [true, false]), (349, [true, false]), (357, [true, false]), (365, [true, false]), (373, [true, false]), (381, [true, false]), (389, [true, false]), (397, [true, false]), (404, [true, false]), (411, [true, false]), (419, [true, false]), (428, [true, false]), (451, [true, false]), (458, [true, false]), (467, [true, false]), (469, [true, true]), (475, [true, true]), (484, [true, true]), (487, [true, true]), (490, [false, false])] jcX11_init 5 rfl h
set_option maxRecDepth 100000 in
theorem gX11_init_365 (d : Nat) (p0 : Int) (m : jM) (Q : Int → jM → Prop)
    (h : (m (-3) 0 < m (-2) (-7) ∧ jKd (m (-3) 0) = 20 ∧ jLn (m (-3) 0) = 16) ∧ (m (-3) 0) = (p0 + 46) ∧ aX11_init_373 d p0 (jUp (jNw m) p0 69 (m (-3) 0)) Q) :
    aX11_init_365 d p0 m Q := jWp_snd [(4, [true, false]), (12, [true, false]), (20, [true, false]), (28, [true, false]), (36, [true, false]), (43, [true, false]), (50, [true, false]), (58, [true, false]), (66, [true, false]), (74, [true, false]), (82, [true, false]), (90, [true, false]), (98, [true, false]), (106, [true, false]), (114, [true, false]), (122, [true, false]), (130, [true, false]), (138, [true, false]), (146, [true, false]), (154, [true, false]), (162, [true, false]), (170, [true, false]), (178, [true, false]), (185, [true, false]), (193, [true, false]), (201, [true, false]), (210, [true, false]), (219, [true, false]), (227, [true, false]), (235, [true, false]), (243, [true, false]), (251, [true, false]), (260, [true, false]), (268, [true, false]), (276, [true, false]), (284, [true, false]), (292, [true, false]), (300, [true, false]), (308, [true, false]), (316, [true, false]), (325, [true, false]), (333, [true, false]), (341, [true, false]), (349, [true, false]), (357, [true, false]), (365, [true, false]), (373, [true, false]), (381, [true, false]), (389, [true, false]), (397, [true, false]), (404, [true, false]), (411, [true, false]), (419, [true, false]), (428, [true, false]), (451, [true, false]), (458, [true, false]), (467, [true, false]), (469, [true, true]), (475, [true, true]), (484, [true, true]), (487, [true, true]), (490, [false, false])] jcX11_init 5 rfl h
set_option maxRecDepth 100000 in
theorem gX11_init_373 (d : Nat) (p0 : Int) (m : jM) (Q : Int → jM → Prop)
    (h : (m (-3) 0 < m (-2) (-7) ∧ jKd (m (-3) 0) = 20 ∧ jLn (m (-3) 0) = 48) ∧ (m (-3) 0) = (p0 + 47) ∧ aX11_init_381 d p0 (jUp (jNw m) p0 70 (m (-3) 0)) Q) :
    aX11_init_373 d p0 m Q := jWp_snd [(4, [true, false]), (12, [true, false]), (20, [true, false]), (28, [true, false]), (36, [true, false]), (43, [true, false]), (50, [true, false]), (58, [true, false]), (66, [true, false]), (74, [true, false]), (82, [true, false]), (90, [true, false]), (98, [true, false]), (106, [true, false]), (114, [true, false]), (122, [true, false]), (130, [true, false]), (138, [true, false]), (146, [true, false]), (154, [true, false]), (162, [true, false]), (170, [true, false]), (178, [true, false]), (185, [true, false]), (193, [true, false]), (201, [true, false]), (210, [true, false]), (219, [true, false]), (227, [true, false]), (235, [true, false]), (243, [true, false]), (251, [true, false]), (260, [true, false]), (268, [true, false]), (276, [true, false]), (284, [true, false]), (292, [true, false]), (300, [true, false]), (308, [true, false]), (316, [true, false]), (325, [true, false]), (333, [true, false]), (341, [true, false]), (349, [true, false]), (357, [true, false]), (365, [true, false]), (373, [true, false]), (381, [true, false]), (389, [true, false]), (397, [true, false]), (404, [true, false]), (411, [true, false]), (419, [true, false]), (428, [true, false]), (451, [true, false]), (458, [true, false]), (467, [true, false]), (469, [true, true]), (475, [true, true]), (484, [true, true]), (487, [true, true]), (490, [false, false])] jcX11_init 5 rfl h
set_option maxRecDepth 100000 in
theorem gX11_init_381 (d : Nat) (p0 : Int) (m : jM) (Q : Int → jM → Prop)
    (h : (m (-3) 0 < m (-2) (-7) ∧ jKd (m (-3) 0) = 21 ∧ jLn (m (-3) 0) = 64) ∧ (m (-3) 0) = (p0 + 48) ∧ aX11_init_389 d p0 (jUp (jNw m) p0 71 (m (-3) 0)) Q) :
    aX11_init_381 d p0 m Q := jWp_snd [(4, [true, false]), (12, [true, false]), (20, [true, false]), (28, [true, false]), (36, [true, false]), (43, [true, false]), (50, [true, false]), (58, [true, false]), (66, [true, false]), (74, [true, false]), (82, [true, false]), (90, [true, false]), (98, [true, false]), (106, [true, false]), (114, [true, false]), (122, [true, false]), (130, [true, false]), (138, [true, false]), (146, [true, false]), (154, [true, false]), (162, [true, false]), (170, [true, false]), (178, [true, false]), (185, [true, false]), (193, [true, false]), (201, [true, false]), (210, [true, false]), (219, [true, false]), (227, [true, false]), (235, [true, false]), (243, [true, false]), (251, [true, false]), (260, [true, false]), (268, [true, false]), (276, [true, false]), (284, [true, false]), (292, [true, false]), (300, [true, false]), (308, [true, false]), (316, [true, false]), (325, [true, false]), (333, [true, false]), (341, [true, false]), (349, [true, false]), (357, [true, false]), (365, [true, false]), (373, [true, false]), (381, [true, false]), (389, [true, false]), (397, [true, false]), (404, [true, false]), (411, [true, false]), (419, [true, false]), (428, [true, false]), (451, [true, false]), (458, [true, false]), (467, [true, false]), (469, [true, true]), (475, [true, true]), (484, [true, true]), (487, [true, true]), (490, [false, false])] jcX11_init 5 rfl h
set_option maxRecDepth 100000 in
theorem gX11_init_389 (d : Nat) (p0 : Int) (m : jM) (Q : Int → jM → Prop)
    (h : (m (-3) 0 < m (-2) (-7) ∧ jKd (m (-3) 0) = 20 ∧ jLn (m (-3) 0) = 64) ∧ (m (-3) 0) = (p0 + 49) ∧ aX11_init_397 d p0 (jUp (jNw m) p0 72 (m (-3) 0)) Q) :
    aX11_init_389 d p0 m Q := jWp_snd [(4, [true, false]), (12, [true, false]), (20, [true, false]), (28, [true, false]), (36, [true, false]), (43, [true, false]), (50, [true, false]), (58, [true, false]), (66, [true, false]), (74, [true, false]), (82, [true, false]), (90, [true, false]), (98, [true, false]), (106, [true, false]), (114, [true, false]), (122, [true, false]), (130, [true, false]), (138, [true, false]), (146, [true, false]), (154, [true, false]), (162, [true, false]), (170, [true, false]), (178, [true, false]), (185, [true, false]), (193, [true, false]), (201, [true, false]), (210, [true, false]), (219, [true, false]), (227, [true, false]), (235, [true, false]), (243, [true, false]), (251, [true, false]), (260, [true, false]), (268, [true, false]), (276, [true, false]), (284, [true, false]), (292, [true, false]), (300, [true, false]), (308, [true, false]), (316, [true, false]), (325, [true, false]), (333, [true, false]), (341, [true, false]), (349, [true, false]), (357, [true, false]), (365, [true, false]), (373, [true, false]), (381, [true, false]), (389, [true, false]), (397, [true, false]), (404, [true, false]), (411, [true, false]), (419, [true, false]), (428, [true, false]), (451, [true, false]), (458, [true, false]), (467, [true, false]), (469, [true, true]), (475, [true, true]), (484, [true, true]), (487, [true, true]), (490, [false, false])] jcX11_init 5 rfl h
set_option maxRecDepth 100000 in
theorem gX11_init_397 (d : Nat) (p0 : Int) (m : jM) (Q : Int → jM → Prop)
    (h : (m (-3) 0 < m (-2) (-7) ∧ jKd (m (-3) 0) = 20 ∧ jLn (m (-3) 0) = 4) ∧ (m (-3) 0) = (p0 + 50) ∧ aX11_init_404 d p0 (jUp (jNw m) p0 73 (m (-3) 0)) Q) :
    aX11_init_397 d p0 m Q := jWp_snd [(4, [true, false]), (12, [true, false]), (20, [true, false]), (28, [true, false]), (36, [true, false]), (43, [true, false]), (50, [true, false]), (58, [true, false]), (66, [true, false]), (74, [true, false]), (82, [true, false]), (90, [true, false]), (98, [true, false]), (106, [true, false]), (114, [true, false]), (122, [true, false]), (130, [true, false]), (138, [true, false]), (146, [true, false]), (154, [true, false]), (162, [true, false]), (170, [true, false]), (178, [true, false]), (185, [true, false]), (193, [true, false]), (201, [true, false]), (210, [true, false]), (219, [true, false]), (227, [true, false]), (235, [true, false]), (243, [true, false]), (251, [true, false]), (260, [true, false]), (268, [true, false]), (276, [true, false]), (284, [true, false]), (292, [true, false]), (300, [true, false]), (308, [true, false]), (316, [true, false]), (325, [true, false]), (333, [true, false]), (341, [true, false]), (349, [true, false]), (357, [true, false]), (365, [true, false]), (373, [true, false]), (381, [true, false]), (389, [true, false]), (397, [true, false]), (404, [true, false]), (411, [true, false]), (419, [true, false]), (428, [true, false]), (451, [true, false]), (458, [true, false]), (467, [true, false]), (469, [true, true]), (475, [true, true]), (484, [true, true]), (487, [true, true]), (490, [false, false])] jcX11_init 5 rfl h
set_option maxRecDepth 100000 in
theorem gX11_init_404 (d : Nat) (p0 : Int) (m : jM) (Q : Int → jM → Prop)
    (h : (m (-3) 0 < m (-2) (-7) ∧ jKd (m (-3) 0) = 20 ∧ jLn (m (-3) 0) = 4) ∧ (m (-3) 0) = (p0 + 51) ∧ aX11_init_411 d p0 (jUp (jNw m) p0 74 (m (-3) 0)) Q) :
    aX11_init_404 d p0 m Q := jWp_snd [(4, [true, false]), (12, [true, false]), (20, [true, false]), (28, [true, false]), (36, [true, false]), (43, [true, false]), (50, [true, false]), (58, [true, false]), (66, [true, false]), (74, [true, false]), (82, [true, false]), (90, [true, false]), (98, [true, false]), (106, [true, false]), (114, [true, false]), (122, [true, false]), (130, [true, false]), (138, [true, false]), (146, [true, false]), (154, [true, false]), (162, [true, false]), (170, [true, false]), (178, [true, false]), (185, [true, false]), (193, [true, false]), (201, [true, false]), (210, [true, false]), (219, [true, false]), (227, [true, false]), (235, [true, false]), (243, [true, false]), (251, [true, false]), (260, [true, false]), (268, [true, false]), (276, [true, false]), (284, [true, false]), (292, [true, false]), (300, [true, false]), (308, [true, false]), (316, [true, false]), (325, [true, false]), (333, [true, false]), (341, [true, false]), (349, [true, false]), (357, [true, false]), (365, [true, false]), (373, [true, false]), (381, [true, false]), (389, [true, false]), (397, [true, false]), (404, [true, false]), (411, [true, false]), (419, [true, false]), (428, [true, false]), (451, [true, false]), (458, [true, false]), (467, [true, false]), (469, [true, true]), (475, [true, true]), (484, [true, true]), (487, [true, true]), (490, [false, false])] jcX11_init 5 rfl h
set_option maxRecDepth 100000 in
theorem gX11_init_411 (d : Nat) (p0 : Int) (m : jM) (Q : Int → jM → Prop)
    (h : (m (-3) 0 < m (-2) (-7) ∧ jKd (m (-3) 0) = 20 ∧ jLn (m (-3) 0) = 16) ∧ (m (-3) 0) = (p0 + 52) ∧ aX11_init_419 d p0 (jUp (jNw m) p0 75 (m (-3) 0)) Q) :
    aX11_init_411 d p0 m Q := jWp_snd [(4, [true, false]), (12, [true, false]), (20, [true, false]), (28, [true, false]), (36, [true, false]), (43, [true, false]), (50, [true, false]), (58, [true, false]), (66, [true, false]), (74, [true, false]), (82, [true, false]), (90, [true, false]), (98, [true, false]), (106, [true, false]), (114, [true, false]), (122, [true, false]), (130, [true, false]), (138, [true, false]), (146, [true, false]), (154, [true, false]), (162, [true, false]), (170, [true, false]), (178, [true, false]), (185, [true, false]), (193, [true, false]), (201, [true, false]), (210, [true, false]), (219, [true, false]), (227, [true, false]), (235, [true, false]), (243, [true, false]), (251, [true, false]), (260, [true, false]), (268, [true, false]), (276, [true, false]), (284, [true, false]), (292, [true, false]), (300, [true, false]), (308, [true, false]), (316, [true, false]), (325, [true, false]), (333, [true, false]), (341, [true, false]), (349, [true, false]), (357, [true, false]), (365, [true, false]), (373, [true, false]), (381, [true, false]), (389, [true, false]), (397, [true, false]), (404, [true, false]), (411, [true, false]), (419, [true, false]), (428, [true, false]), (451, [true, false]), (458, [true, false]), (467, [true, false]), (469, [true, true]), (475, [true, true]), (484, [true, true]), (487, [true, true]), (490, [false, false])] jcX11_init 5 rfl h
set_option maxRecDepth 100000 in
theorem gX11_init_419 (d : Nat) (p0 : Int) (m : jM) (Q : Int → jM → Prop)
    (h : (m (-3) 0 < m (-2) (-7) ∧ jKd (m (-3) 0) = 20 ∧ jLn (m (-3) 0) = 672) ∧ (m (-3) 0) = (p0 + 53) ∧ aX11_init_428 d p0 (jUp (jNw m) p0 76 (m (-3) 0)) Q) :
    aX11_init_419 d p0 m Q := jWp_snd [(4, [true, false]), (12, [true, false]), (20, [true, false]), (28, [true, false]), (36, [true, false]), (43, [true, false]), (50, [true, false]), (58, [true, false]), (66, [true, false]), (74, [true, false]), (82, [true, false]), (90, [true, false]), (98, [true, false]), (106, [true, false]), (114, [true, false]), (122, [true, false]), (130, [true, false]), (138, [true, false]), (146, [true, false]), (154, [true, false]), (162, [true, false]), (170, [true, false]), (178, [true, false]), (185, [true, false]), (193, [true, false]), (201, [true, false]), (210, [true, false]), (219, [true, false]), (227, [true, false]), (235, [true, false]), (243, [true, false]), (251, [true, false]), (260, [true, false]), (268, [true, false]), (276, [true, false]), (284, [true, false]), (292, [true, false]), (300, [true, false]), (308, [true, false]), (316, [true, false]), (325, [true, false]), (333, [true, false]), (341, [true, false]), (349, [true, false]), (357, [true, false]), (365, [true, false]), (373, [true, false]), (381, [true, false]), (389, [true, false]), (397, [true, false]), (404, [true, false]), (411, [true, false]), (419, [true, false]), (428, [true, false]), (451, [true, false]), (458, [true, false]), (467, [true, false]), (469, [true, true]), (475, [true, true]), (484, [true, true]), (487, [true, true]), (490, [false, false])] jcX11_init 5 rfl h
set_option maxRecDepth 100000 in
theorem gX11_init_428 (d : Nat) (p0 : Int) (m : jM) (Q : Int → jM → Prop)
    (h : (m (-3) 0 < m (-2) (-7) ∧ jKd (m (-3) 0) = 20 ∧ jLn (m (-3) 0) = 4) ∧ ((0 : Int) ≤ 0 ∧ (0 : Int) < 4) ∧ ((0 : Int) ≤ 1 ∧ (1 : Int) < 4) ∧ ((0 : Int) ≤ 2 ∧ (2 : Int) < 4) ∧ ((0 : Int) ≤ 3 ∧ (3 : Int) < 4) ∧ (m (-3) 0) = (p0 + 54) ∧ aX11_init_451 d p0 (jUp (jUp (jUp (jUp (jUp (jNw m) (m (-3) 0) 0 (-1)) (m (-3) 0) 1 (-1)) (m (-3) 0) 2 (-1)) (m (-3) 0) 3 (-1)) p0 77 (m (-3) 0)) Q) :
    aX11_init_428 d p0 m Q := jWp_snd [(4, [true, false]), (12, [true, false]), (20, [true, false]), (28, [true, false]), (36, [true, false]), (43, [true, false]), (50, [true, false]), (58, [true, false]), (66, [true, false]), (74, [true, false]), (82, [true, false]), (90, [true, false]), (98, [true, false]), (106, [true, false]), (114, [true, false]), (122, [true, false]), (130, [true, false]), (138, [true, false]), (146, [true, false]), (154, [true, false]), (162, [true, false]), (170, [true, false]), (178, [true, false]), (185, [true, false]), (193, [true, false]), (201, [true, false]), (210, [true, false]), (219, [true, false]), (227, [true, false]), (235, [true, false]), (243, [true, false]), (251, [true, false]), (260, [true, false]), (268, [true, false]), (276, [true, false]), (284, [true, false]), (292, [true, false]), (300, [true, false]), (308, [true, false]), (316, [true, false]), (325, [true, false]), (333, [true, false]), (341, [true, false]), (349, [true, false]), (357, [true, false]), (365, [true, false]), (373, [true, false]), (381, [true, false]), (389, [true, false]), (397, [true, false]), (404, [true, false]), (411, [true, false]), (419, [true, false]), (428, [true, false]), (451, [true, false]), (458, [true, false]), (467, [true, false]), (469, [true, true]), (475, [true, true]), (484, [true, true]), (487, [true, true]), (490, [false, false])] jcX11_init 21 rfl h
set_option maxRecDepth 100000 in
theorem gX11_init_451 (d : Nat) (p0 : Int) (m : jM) (Q : Int → jM → Prop)
    (h : (m (-3) 0 < m (-2) (-7) ∧ jKd (m (-3) 0) = 20 ∧ jLn (m (-3) 0) = 4) ∧ (m (-3) 0) = (p0 + 55) ∧ aX11_init_458 d p0 (jUp (jNw m) p0 78 (m (-3) 0)) Q) :
    aX11_init_451 d p0 m Q := jWp_snd [(4, [true, false]), (12, [true, false]), (20, [true, false]), (28, [true, false]), (36, [true, false]), (43, [true, false]), (50, [true, false]), (58, [true, false]), (66, [true, false]), (74, [true, false]), (82, [true, false]), (90, [true, false]), (98, [true, false]), (106, [true, false]), (114, [true, false]), (122, [true, false]), (130, [true, false]), (138, [true, false]), (146, [true, false]), (154, [true, false]), (162, [true, false]), (170, [true, false]), (178, [true, false]), (185, [true, false]), (193, [true, false]), (201, [true, false]), (210, [true, false]), (219, [true, false]), (227, [true, false]), (235, [true, false]), (243, [true, false]), (251, [true, false]), (260, [true, false]), (268, [true, false]), (276, [true, false]), (284, [true, false]), (292, [true, false]), (300, [true, false]), (308, [true, false]), (316, [true, false]), (325, [true, false]), (333, [true, false]), (341, [true, false]), (349, [true, false]), (357, [true, false]), (365, [true, false]), (373, [true, false]), (381, [true, false]), (389, [true, false]), (397, [true, false]), (404, [true, false]), (411, [true, false]), (419, [true, false]), (428, [true, false]), (451, [true, false]), (458, [true, false]), (467, [true, false]), (469, [true, true]), (475, [true, true]), (484, [true, true]), (487, [true, true]), (490, [false, false])] jcX11_init 5 rfl h
set_option maxRecDepth 100000 in
theorem gX11_init_458 (d : Nat) (p0 : Int) (m : jM) (Q : Int → jM → Prop)
    (h : (m (-3) 0 < m (-2) (-7) ∧ jKd (m (-3) 0) = 21 ∧ jLn (m (-3) 0) = 160) ∧ (m (-3) 0) = (p0 + 56) ∧ aX11_init_467 d p0 (jUp (jNw m) p0 79 (m (-3) 0)) Q) :
    aX11_init_458 d p0 m Q := jWp_snd [(4, [true, false]), (12, [true, false]), (20, [true, false]), (28, [true, false]), (36, [true, false]), (43, [true, false]), (50, [true, false]), (58, [true, false]), (66, [true, false]), (74, [true, false]), (82, [true, false]), (90, [true, false]), (98, [true, false]), (106, [true, false]), (114, [true, false]), (122, [true, false]), (130, [true, false]), (138, [true, false]), (146, [true, false]), (154, [true, false]), (162, [true, false]), (170, [true, false]), (178, [true, false]), (185, [true, false]), (193, [true, false]), (201, [true, false]), (210, [true, false]), (219, [true, false]), (227, [true, false]), (235, [true, false]), (243, [true, false]), (251, [true, false]), (260, [true, false]), (268, [true, false]), (276, [true, false]), (284, [true, false]), (292, [true, false]), (300, [true, false]), (308, [true, false]), (316, [true, false]), (325, [true, false]), (333, [true, false]), (341, [true, false]), (349, [true, false]), (357, [true, false]), (365, [true, false]), (373, [true, false]), (381, [true, false]), (389, [true, false]), (397, [true, false]), (404, [true, false]), (411, [true, false]), (419, [true, false]), (428, [true, false]), (451, [true, false]), (458, [true, false]), (467, [true, false]), (469, [true, true]), (475, [true, true]), (484, [true, true]), (487, [true, true]), (490, [false, false])] jcX11_init 5 rfl h
set_option maxRecDepth 100000 in
theorem gX11_init_467 (d : Nat) (p0 : Int) (m : jM) (Q : Int → jM → Prop)
    (h : aX11_init_469 d p0 0 m Q) :
    aX11_init_467 d p0 m Q := jWp_snd [(4, [true, false]), (12, [true, false]), (20, [true, false]), (28, [true, false]), (36, [true, false]), (43, [true, false]), (50, [true, false]), (58, [true, false]), (66, [true, false]), (74, [true, false]), (82, [true, false]), (90, [true, false]), (98, [true, false]), (106, [true, false]), (114, [true, false]), (122, [true, false]), (130, [true, false]), (138, [true, false]), (146, [true, false]), (154, [true, false]), (162, [true, false]), (170, [true, false]), (178, [true, false]), (185, [true, false]), (193, [true, false]), (201, [true, false]), (210, [true, false]), (219, [true, false]), (227, [true, false]), (235, [true, false]), (243, [true, false]), (251, [true, false]), (260, [true, false]), (268, [true, false]), (276, [true, false]), (284, [true, false]), (292, [true, false]), (300, [true, false]), (308, [true, false]), (316, [true, false]), (325, [true, false]), (333, [true, false]), (341, [true, false]), (349, [true, false]), (357, [true, false]), (365, [true, false]), (373, [true, false]), (381, [true, false]), (389, [true, false]), (397, [true, false]), (404, [true, false]), (411, [true, false]), (419, [true, false]), (428, [true, false]), (451, [true, false]), (458, [true, false]), (467, [true, false]), (469, [true, true]), (475, [true, true]), (484, [true, true]), (487, [true, true]), (490, [false, false])] jcX11_init 3 rfl h
set_option maxRecDepth 100000 in
theorem gX11_init_469 (d : Nat) (p0 x1 : Int) (m : jM) (Q : Int → jM → Prop)
    (h : (x1 < 64 → aX11_init_475 d p0 x1 m Q) ∧ (¬ x1 < 64 → aX11_init_490 d  m Q)) :
    aX11_init_469 d p0 x1 m Q := jWp_snd [(4, [true, false]), (12, [true, false]), (20, [true, false]), (28, [true, false]), (36, [true, false]), (43, [true, false]), (50, [true, false]), (58, [true, false]), (66, [true, false]), (74, [true, false]), (82, [true, false]), (90, [true, false]), (98, [true, false]), (106, [true, false]), (114, [true, false]), (122, [true, false]), (130, [true, false]), (138, [true, false]), (146, [true, false]), (154, [true, false]), (162, [true, false]), (170, [true, false]), (178, [true, false]), (185, [true, false]), (193, [true, false]), (201, [true, false]), (210, [true, false]), (219, [true, false]), (227, [true, false]), (235, [true, false]), (243, [true, false]), (251, [true, false]), (260, [true, false]), (268, [true, false]), (276, [true, false]), (284, [true, false]), (292, [true, false]), (300, [true, false]), (308, [true, false]), (316, [true, false]), (325, [true, false]), (333, [true, false]), (341, [true, false]), (349, [true, false]), (357, [true, false]), (365, [true, false]), (373, [true, false]), (381, [true, false]), (389, [true, false]), (397, [true, false]), (404, [true, false]), (411, [true, false]), (419, [true, false]), (428, [true, false]), (451, [true, false]), (458, [true, false]), (467, [true, false]), (469, [true, true]), (475, [true, true]), (484, [true, true]), (487, [true, true]), (490, [false, false])] jcX11_init 4 rfl h
set_option maxRecDepth 100000 in
theorem gX11_init_475 (d : Nat) (p0 x1 : Int) (m : jM) (Q : Int → jM → Prop)
    (h : m p0 3 = (p0 + 3) ∧ ((0 : Int) ≤ x1 ∧ (x1 : Int) < 64) ∧ aX11_init_484 d p0 x1 (jUp m (p0 + 3) x1 (-1)) Q) :
    aX11_init_475 d p0 x1 m Q := jWp_snd [(4, [true, false]), (12, [true, false]), (20, [true, false]), (28, [true, false]), (36, [true, false]), (43, [true, false]), (50, [true, false]), (58, [true, false]), (66, [true, false]), (74, [true, false]), (82, [true, false]), (90, [true, false]), (98, [true, false]), (106, [true, false]), (114, [true, false]), (122, [true, false]), (130, [true, false]), (138, [true, false]), (146, [true, false]), (154, [true, false]), (162, [true, false]), (170, [true, false]), (178, [true, false]), (185, [true, false]), (193, [true, false]), (201, [true, false]), (210, [true, false]), (219, [true, false]), (227, [true, false]), (235, [true, false]), (243, [true, false]), (251, [true, false]), (260, [true, false]), (268, [true, false]), (276, [true, false]), (284, [true, false]), (292, [true, false]), (300, [true, false]), (308, [true, false]), (316, [true, false]), (325, [true, false]), (333, [true, false]), (341, [true, false]), (349, [true, false]), (357, [true, false]), (365, [true, false]), (373, [true, false]), (381, [true, false]), (389, [true, false]), (397, [true, false]), (404, [true, false]), (411, [true, false]), (419, [true, false]), (428, [true, false]), (451, [true, false]), (458, [true, false]), (467, [true, false]), (469, [true, true]), (475, [true, true]), (484, [true, true]), (487, [true, true]), (490, [false, false])] jcX11_init 6 rfl h
set_option maxRecDepth 100000 in
theorem gX11_init_484 (d : Nat) (p0 x1 : Int) (m : jM) (Q : Int → jM → Prop)
    (h : aX11_init_487 d p0 (w32 (x1 + 1)) m Q) :
    aX11_init_484 d p0 x1 m Q := jWp_snd [(4, [true, false]), (12, [true, false]), (20, [true, false]), (28, [true, false]), (36, [true, false]), (43, [true, false]), (50, [true, false]), (58, [true, false]), (66, [true, false]), (74, [true, false]), (82, [true, false]), (90, [true, false]), (98, [true, false]), (106, [true, false]), (114, [true, false]), (122, [true, false]), (130, [true, false]), (138, [true, false]), (146, [true, false]), (154, [true, false]), (162, [true, false]), (170, [true, false]), (178, [true, false]), (185, [true, false]), (193, [true, false]), (201, [true, false]), (210, [true, false]), (219, [true, false]), (227, [true, false]), (235, [true, false]), (243, [true, false]), (251, [true, false]), (260, [true, false]), (268, [true, false]), (276, [true, false]), (284, [true, false]), (292, [true, false]), (300, [true, false]), (308, [true, false]), (316, [true, false]), (325, [true, false]), (333, [true, false]), (341, [true, false]), (349, [true, false]), (357, [true, false]), (365, [true, false]), (373, [true, false]), (381, [true, false]), (389, [true, false]), (397, [true, false]), (404, [true, false]), (411, [true, false]), (419, [true, false]), (428, [true, false]), (451, [true, false]), (458, [true, false]), (467, [true, false]), (469, [true, true]), (475, [true, true]), (484, [true, true]), (487, [true, true]), (490, [false, false])] jcX11_init 2 rfl h
set_option maxRecDepth 100000 in
theorem gX11_init_487 (d : Nat) (p0 x1 : Int) (m : jM) (Q : Int → jM → Prop)
    (h : aX11_init_469 d p0 x1 m Q) :
    aX11_init_487 d p0 x1 m Q := jWp_snd [(4, [true, false]), (12, [true, false]), (20, [true, false]), (28, [true, false]), (36, [true, false]), (43, [true, false]), (50, [true, false]), (58, [true, false]), (66, [true, false]), (74, [true, false]), (82, [true, false]), (90, [true, false]), (98, [true, false]), (106, [true, false]), (114, [true, false]), (122, [true, false]), (130, [true, false]), (138, [true, false]), (146, [true, false]), (154, [true, false]), (162, [true, false]), (170, [true, false]), (178, [true, false]), (185, [true, false]), (193, [true, false]), (201, [true, false]), (210, [true, false]), (219, [true, false]), (227, [true, false]), (235, [true, false]), (243, [true, false]), (251, [true, false]), (260, [true, false]), (268, [true, false]), (276, [true, false]), (284, [true, false]), (292, [true, false]), (300, [true, false]), (308, [true, false]), (316, [true, false]), (325, [true, false]), (333, [true, false]), (341, [true, false]), (349, [true, false]), (357, [true, false]), (365, [true, false]), (373, [true, false]), (381, [true, false]), (389, [true, false]), (397, [true, false]), (404, [true, false]), (411, [true, false]), (419, [true, false]), (428, [true, false]), (451, [true, false]), (458, [true, false]), (467, [true, false]), (469, [true, true]), (475, [true, true]), (484, [true, true]), (487, [true, true]), (490, [false, false])] jcX11_init 2 rfl h
set_option maxRecDepth 100000 in
theorem gX11_init_490 (d : Nat) (m : jM) (Q : Int → jM → Prop)
    (h : m (-3) 0 = m (-2) (-7) ∧ Q 0 m) :
    aX11_init_490 d  m Q := jWp_snd [(4, [true, false]), (12, [true, false]), (20, [true, false]), (28, [true, false]), (36, [true, false]), (43, [true, false]), (50, [true, false]), (58, [true, false]), (66, [true, false]), (74, [true, false]), (82, [true, false]), (90, [true, false]), (98, [true, false]), (106, [true, false]), (114, [true, false]), (122, [true, false]), (130, [true, false]), (138, [true, false]), (146, [true, false]), (154, [true, false]), (162, [true, false]), (170, [true, false]), (178, [true, false]), (185, [true, false]), (193, [true, false]), (201, [true, false]), (210, [true, false]), (219, [true, false]), (227, [true, false]), (235, [true, false]), (243, [true, false]), (251, [true, false]), (260, [true, false]), (268, [true, false]), (276, [true, false]), (284, [true, false]), (292, [true, false]), (300, [true, false]), (308, [true, false]), (316, [true, false]), (325, [true, false]), (333, [true, false]), (341, [true, false]), (349, [true, false]), (357, [true, false]), (365, [true, false]), (373, [true, false]), (381, [true, false]), (389, [true, false]), (397, [true, false]), (404, [true, false]), (411, [true, false]), (419, [true, false]), (428, [true, false]), (451, [true, false]), (458, [true, false]), (467, [true, false]), (469, [true, true]), (475, [true, true]), (484, [true, true]), (487, [true, true]), (490, [false, false])] jcX11_init 2 rfl h
set_option maxRecDepth 100000 in
theorem gX11_isWho (d : Nat) (x0 x1 : Int) (m : jM) (Q : Int → jM → Prop)
    (h : jK d zX11_in [jL x0, jL 0, jL 1] m (fun v1 m1 => (v1 = 0 → Q 0 m1) ∧ (¬ v1 = 0 → jK d zX11_in [jL x1, jL 0, jL 7] m1 (fun v2 m2 => (v2 = 0 → Q 0 m2) ∧ (¬ v2 = 0 → Q 1 m2))))) :
    jK (d + 1) zX11_isWho [jI x0, jI x1] m Q := jWp_sn0 [] jcX11_isWho 16 rfl h
set_option maxRecDepth 100000 in
theorem gX11_isPair (d : Nat) (x0 x1 : Int) (m : jM) (Q : Int → jM → Prop)
    (h : jK d zX11_in [jL x0, jL 0, jL 7] m (fun v1 m1 => (v1 = 0 → Q 0 m1) ∧ (¬ v1 = 0 → jK d zX11_in [jL x1, jL 0, jL 7] m1 (fun v2 m2 => (v2 = 0 → Q 0 m2) ∧ (¬ v2 = 0 → Q 1 m2))))) :
    jK (d + 1) zX11_isPair [jI x0, jI x1] m Q := jWp_sn0 [] jcX11_isPair 16 rfl h
set_option maxRecDepth 100000 in
theorem gX11_isJudge (d : Nat) (x1 : Int) (m : jM) (Q : Int → jM → Prop)
    (h : ((0 : Int) ≤ x1 ∧ (x1 : Int) < 16) ∧ ((m 104 x1) = 1 → Q 1 m) ∧ (¬ (m 104 x1) = 1 → Q 0 m)) :
    jK (d + 1) zX11_isJudge [jO 11 103, jI x1] m Q := jWp_sn0 [] jcX11_isJudge 10 rfl h
set_option maxRecDepth 100000 in
theorem gX11_isCase (d : Nat) (x1 : Int) (m : jM) (Q : Int → jM → Prop)
    (h : ((0 : Int) ≤ (w32 (8 + x1)) ∧ ((w32 (8 + x1)) : Int) < 16) ∧ ((m 104 (w32 (8 + x1))) = 1 → Q 1 m) ∧ (¬ (m 104 (w32 (8 + x1))) = 1 → Q 0 m)) :
    jK (d + 1) zX11_isCase [jO 11 103, jI x1] m Q := jWp_sn0 [] jcX11_isCase 12 rfl h
set_option maxRecDepth 100000 in
theorem gX11_here (d : Nat) (x1 x2 x3 : Int) (m : jM) (Q : Int → jM → Prop)
    (h : jK d zX11_isWho [jI x1, jI x2] m (fun v1 m1 => (v1 = 0 → Q (-2) m1) ∧ (¬ v1 = 0 → jK d zX11_in [jL x3, jL 0, jL 1] m1 (fun v2 m2 => (v2 = 0 → Q (-2) m2) ∧ (¬ v2 = 0 → ((0 : Int) ≤ (w32 ((w32 (8 * x1)) + x2)) ∧ ((w32 ((w32 (8 * x1)) + x2)) : Int) < 16) ∧ ((0 : Int) ≤ (w32 ((w32 (8 * x1)) + x2)) ∧ ((w32 ((w32 (8 * x1)) + x2)) : Int) < 16) ∧ Q (m2 104 (w32 ((w32 (8 * x1)) + x2))) (jUp m2 104 (w32 ((w32 (8 * x1)) + x2)) x3)))))) :
    jK (d + 1) zX11_here [jO 11 103, jI x1, jI x2, jI x3] m Q := jWp_sn0 [] jcX11_here 31 rfl h
set_option maxRecDepth 100000 in
theorem gX11_trait (d : Nat) (x1 x2 x3 x4 : Int) (m : jM) (Q : Int → jM → Prop)
    (h : jK d zX11_isWho [jI x1, jI x2] m (fun v1 m1 => (v1 = 0 → Q (-2) m1) ∧ (¬ v1 = 0 → jK d zX11_in [jL x3, jL 0, jL 2] m1 (fun v2 m2 => (v2 = 0 → Q (-2) m2) ∧ (¬ v2 = 0 → jK d zX11_in [jL x4, jL (-999), jL 999] m2 (fun v3 m3 => (v3 = 0 → Q (-2) m3) ∧ (¬ v3 = 0 → ((0 : Int) ≤ (w32 ((w32 ((w32 ((w32 (8 * x1)) + x2)) * 3)) + x3)) ∧ ((w32 ((w32 ((w32 ((w32 (8 * x1)) + x2)) * 3)) + x3)) : Int) < 48) ∧ ((0 : Int) ≤ (w32 ((w32 ((w32 ((w32 (8 * x1)) + x2)) * 3)) + x3)) ∧ ((w32 ((w32 ((w32 ((w32 (8 * x1)) + x2)) * 3)) + x3)) : Int) < 48) ∧ Q (m3 105 (w32 ((w32 ((w32 ((w32 (8 * x1)) + x2)) * 3)) + x3))) (jUp m3 105 (w32 ((w32 ((w32 ((w32 (8 * x1)) + x2)) * 3)) + x3)) x4)))))))) :
    jK (d + 1) zX11_trait [jO 11 103, jI x1, jI x2, jI x3, jI x4] m Q := jWp_sn0 [] jcX11_trait 39 rfl h
set_option maxRecDepth 100000 in
theorem gX11_feed (d : Nat) (x1 : Int) (m : jM) (Q : Int → jM → Prop)
    (h : jK d zX11_in [jL x1, jL 0, jL 255] m (fun v1 m1 => (v1 = 0 → Q (-2) m1) ∧ (¬ v1 = 0 → ((m1 103 16) = 60 → Q (-4) m1) ∧ (¬ (m1 103 16) = 60 → ((0 : Int) ≤ (m1 103 16) ∧ ((m1 103 16) : Int) < 60) ∧ Q ((jUp (jUp m1 118 (m1 103 16) x1) 103 16 (w32 (((jUp m1 118 (m1 103 16) x1) 103 16) + 1))) 103 16) (jUp (jUp m1 118 (m1 103 16) x1) 103 16 (w32 (((jUp m1 118 (m1 103 16) x1) 103 16) + 1))))))) :
    jK (d + 1) zX11_feed [jO 11 103, jI x1] m Q := jWp_sn0 [] jcX11_feed 26 rfl h
set_option maxRecDepth 100000 in
theorem gX11_byteAt (d : Nat) (x1 : Int) (m : jM) (Q : Int → jM → Prop)
    (h : (x1 < (m 103 16) → ((0 : Int) ≤ x1 ∧ (x1 : Int) < 60) ∧ Q (m 118 x1) m) ∧ (¬ x1 < (m 103 16) → Q (-1) m)) :
    jK (d + 1) zX11_byteAt [jO 11 103, jI x1] m Q := jWp_sn0 [] jcX11_byteAt 11 rfl h
set_option maxRecDepth 100000 in
theorem gX11_isLetter (d : Nat) (x0 : Int) (m : jM) (Q : Int → jM → Prop)
    (h : jK d zX11_in [jL x0, jL 97, jL 122] m (fun v1 m1 => (if v1 = 0 ∨ v1 = 1 then Q v1 m1 else False))) :
    jK (d + 1) zX11_isLetter [jI x0] m Q := jWp_sn0 [] jcX11_isLetter 7 rfl h
set_option maxRecDepth 100000 in
theorem gX11_isDigit (d : Nat) (x0 : Int) (m : jM) (Q : Int → jM → Prop)
    (h : jK d zX11_in [jL x0, jL 48, jL 57] m (fun v1 m1 => (if v1 = 0 ∨ v1 = 1 then Q v1 m1 else False))) :
    jK (d + 1) zX11_isDigit [jI x0] m Q := jWp_sn0 [] jcX11_isDigit 7 rfl h
set_option maxRecDepth 100000 in
theorem gX11_isThree (d : Nat) (x1 x2 x3 : Int) (m : jM) (Q : Int → jM → Prop)
    (h : ((m 103 17) = (w32 ((m 103 19) + 3)) → jK d zX11_byteAt [jO 11 103, jI (m 103 19)] m (fun v1 m1 => (v1 = x1 → jK d zX11_byteAt [jO 11 103, jI (w32 ((m1 103 19) + 1))] m1 (fun v2 m2 => (v2 = x2 → jK d zX11_byteAt [jO 11 103, jI (w32 ((m2 103 19) + 2))] m2 (fun v3 m3 => (v3 = x3 → Q 1 m3) ∧ (¬ v3 = x3 → Q 0 m3))) ∧ (¬ v2 = x2 → Q 0 m2))) ∧ (¬ v1 = x1 → Q 0 m1))) ∧ (¬ (m 103 17) = (w32 ((m 103 19) + 3)) → Q 0 m)) :
    jK (d + 1) zX11_isThree [jO 11 103, jI x1, jI x2, jI x3] m Q := jWp_sn0 [] jcX11_isThree 33 rfl h
set_option maxRecDepth 100000 in
theorem gX11_word (d : Nat) (m : jM) (Q : Int → jM → Prop)
    (h : jK d zX11_isThree [jO 11 103, jI 109, jI 105, jI 110] m (fun v1 m1 => (v1 = 0 → jK d zX11_isThree [jO 11 103, jI 109, jI 97, jI 120] m1 (fun v2 m2 => (v2 = 0 → jK d zX11_isThree [jO 11 103, jI 100, jI 105, jI 118] m2 (fun v3 m3 => (v3 = 0 → jK d zX11_isThree [jO 11 103, jI 109, jI 111, jI 100] m3 (fun v4 m4 => (v4 = 0 → ((m4 103 17) = (w32 ((m4 103 19) + 1)) → jK d zX11_byteAt [jO 11 103, jI (m4 103 19)] m4 (fun v5 m5 => jK d zX11_in [jL v5, jL 97, jL 99] m5 (fun v6 m6 => (v6 = 0 → jK d zX11_in [jL v5, jL 120, jL 122] m6 (fun v7 m7 => (v7 = 0 → jK d zX11_in [jL v5, jL 112, jL 115] m7 (fun v8 m8 => (v8 = 0 → Q (-1) m8) ∧ (¬ v8 = 0 → Q (w32 ((w32 (30 + v5)) - 112)) m8))) ∧ (¬ v7 = 0 → Q (w32 ((w32 (23 + v5)) - 120)) m7))) ∧ (¬ v6 = 0 → Q (w32 ((w32 (20 + v5)) - 97)) m6)))) ∧ (¬ (m4 103 17) = (w32 ((m4 103 19) + 1)) → Q (-1) m4)) ∧ (¬ v4 = 0 → Q 11 m4))) ∧ (¬ v3 = 0 → Q 10 m3))) ∧ (¬ v2 = 0 → Q 9 m2))) ∧ (¬ v1 = 0 → Q 8 m1))) :
    jK (d + 1) zX11_word [jO 11 103] m Q := jWp_sn0 [] jcX11_word 62 rfl h
set_option maxRecDepth 100000 in
theorem gX11_isSignByte (d : Nat) (x0 : Int) (m : jM) (Q : Int → jM → Prop)
    (h : (x0 = 43 → Q 1 m) ∧ (¬ x0 = 43 → (x0 = 45 → Q 1 m) ∧ (¬ x0 = 45 → (x0 = 42 → Q 1 m) ∧ (¬ x0 = 42 → (x0 = 40 → Q 1 m) ∧ (¬ x0 = 40 → (x0 = 41 → Q 1 m) ∧ (¬ x0 = 41 → (x0 = 124 → Q 1 m) ∧ (¬ x0 = 124 → (x0 = 44 → Q 1 m) ∧ (¬ x0 = 44 → (x0 = 60 → Q 1 m) ∧ (¬ x0 = 60 → (x0 = 63 → Q 1 m) ∧ (¬ x0 = 63 → (x0 = 58 → Q 1 m) ∧ (¬ x0 = 58 → Q 0 m))))))))))) :
    jK (d + 1) zX11_isSignByte [jI x0] m Q := jWp_sn0 [] jcX11_isSignByte 34 rfl h
def aX11_next_0 (d : Nat) (m : jM) (Q : Int → jM → Prop) : Prop := jA (d + 1) zX11_next 0 [some (jO 11 103), none] [] m Q
def aX11_next_73 (d : Nat) (m : jM) (Q : Int → jM → Prop) : Prop := jA (d + 1) zX11_next 73 [some (jO 11 103), none] [] m Q
def aX11_next_140 (d : Nat) (m : jM) (Q : Int → jM → Prop) : Prop := jA (d + 1) zX11_next 140 [some (jO 11 103), none] [] m Q
set_option maxRecDepth 100000 in
theorem gX11_next (d : Nat) (m : jM) (Q : Int → jM → Prop)
    (h : aX11_next_0 d  m Q) :
    jK (d + 1) zX11_next [jO 11 103] m Q := jWp_c0 [true, false] h
set_option maxRecDepth 100000 in
theorem gX11_next_0 (d : Nat) (m : jM) (Q : Int → jM → Prop)
    (h : jK d zX11_byteAt [jO 11 103, jI (m 103 17)] m (fun v1 m1 => (v1 = 32 → aX11_next_0 d  (jUp m1 103 17 (w32 ((m1 103 17) + 1))) Q) ∧ (¬ v1 = 32 → jK d zX11_byteAt [jO 11 103, jI ((jUp m1 103 19 (m1 103 17)) 103 17)] (jUp m1 103 19 (m1 103 17)) (fun v2 m2 => (v2 = (-1) → Q 0 (jUp (jUp (jUp m2 103 18 4) 103 20 (-1)) 103 18 0)) ∧ (¬ v2 = (-1) → jK d zX11_isLetter [jI v2] (jUp (jUp m2 103 18 4) 103 20 (-1)) (fun v3 m3 => (v3 = 0 → jK d zX11_isDigit [jI v2] m3 (fun v4 m4 => (v4 = 0 → jK d zX11_isSignByte [jI v2] m4 (fun v5 m5 => (v5 = 0 → Q 0 m5) ∧ (¬ v5 = 0 → Q 0 (jUp (jUp (jUp m5 103 18 3) 103 20 v2) 103 17 (w32 (((jUp (jUp m5 103 18 3) 103 20 v2) 103 17) + 1)))))) ∧ (¬ v4 = 0 → aX11_next_140 d  (jUp m4 103 20 0) Q))) ∧ (¬ v3 = 0 → aX11_next_73 d  m3 Q))))))) :
    aX11_next_0 d  m Q := jWp_snd [(0, [true, false]), (73, [true, false]), (140, [true, false])] jcX11_next 47 rfl h
set_option maxRecDepth 100000 in
theorem gX11_next_73 (d : Nat) (m : jM) (Q : Int → jM → Prop)
    (h : jK d zX11_byteAt [jO 11 103, jI (m 103 17)] m (fun v1 m1 => jK d zX11_isLetter [jI v1] m1 (fun v2 m2 => (v2 = 0 → jK d zX11_word [jO 11 103] m2 (fun v3 m3 => (((jUp m3 103 20 v3) 103 20) = (-1) → Q 0 (jUp (jUp m3 103 20 v3) 103 18 4)) ∧ (¬ ((jUp m3 103 20 v3) 103 20) = (-1) → Q 0 (jUp (jUp m3 103 20 v3) 103 18 1)))) ∧ (¬ v2 = 0 → aX11_next_73 d  (jUp m2 103 17 (w32 ((m2 103 17) + 1))) Q)))) :
    aX11_next_73 d  m Q := jWp_snd [(0, [true, false]), (73, [true, false]), (140, [true, false])] jcX11_next 21 rfl h
set_option maxRecDepth 100000 in
theorem gX11_next_140 (d : Nat) (m : jM) (Q : Int → jM → Prop)
    (h : jK d zX11_byteAt [jO 11 103, jI (m 103 17)] m (fun v1 m1 => jK d zX11_isDigit [jI v1] m1 (fun v2 m2 => (v2 = 0 → ((w32 ((m2 103 19) + 4)) < (m2 103 17) → Q 0 (jUp m2 103 18 4)) ∧ (¬ (w32 ((m2 103 19) + 4)) < (m2 103 17) → Q 0 (jUp m2 103 18 2))) ∧ (¬ v2 = 0 → ((m2 103 17) < (w32 ((m2 103 19) + 4)) → jK d zX11_byteAt [jO 11 103, jI (m2 103 17)] m2 (fun v3 m3 => aX11_next_140 d  (jUp (jUp m3 103 20 (w32 ((w32 ((w32 (10 * (m2 103 20))) + v3)) - 48))) 103 17 (w32 (((jUp m3 103 20 (w32 ((w32 ((w32 (10 * (m2 103 20))) + v3)) - 48))) 103 17) + 1))) Q)) ∧ (¬ (m2 103 17) < (w32 ((m2 103 19) + 4)) → aX11_next_140 d  (jUp m2 103 17 (w32 ((m2 103 17) + 1))) Q))))) :
    aX11_next_140 d  m Q := jWp_snd [(0, [true, false]), (73, [true, false]), (140, [true, false])] jcX11_next 34 rfl h
set_option maxRecDepth 100000 in
theorem gX11_fail (d : Nat) (m : jM) (Q : Int → jM → Prop)
    (h : ((m 103 22) = 0 → Q 0 (jUp (jUp m 103 22 1) 103 23 ((jUp m 103 22 1) 103 19))) ∧ (¬ (m 103 22) = 0 → Q 0 m)) :
    jK (d + 1) zX11_fail [jO 11 103] m Q := jWp_sn0 [] jcX11_fail 12 rfl h
set_option maxRecDepth 100000 in
theorem gX11_isSign (d : Nat) (x1 : Int) (m : jM) (Q : Int → jM → Prop)
    (h : ((m 103 22) = 0 → ((m 103 18) = 3 → ((m 103 20) = x1 → Q 1 m) ∧ (¬ (m 103 20) = x1 → Q 0 m)) ∧ (¬ (m 103 18) = 3 → Q 0 m)) ∧ (¬ (m 103 22) = 0 → Q 0 m)) :
    jK (d + 1) zX11_isSign [jO 11 103, jI x1] m Q := jWp_sn0 [] jcX11_isSign 15 rfl h
set_option maxRecDepth 100000 in
theorem gX11_takes (d : Nat) (x1 : Int) (m : jM) (Q : Int → jM → Prop)
    (h : jK d zX11_isSign [jO 11 103, jI x1] m (fun v1 m1 => (v1 = 0 → jK d zX11_fail [jO 11 103] m1 (fun v2 m2 => Q 0 m2)) ∧ (¬ v1 = 0 → jK d zX11_next [jO 11 103] m1 (fun v3 m3 => Q 0 m3)))) :
    jK (d + 1) zX11_takes [jO 11 103, jI x1] m Q := jWp_sn0 [] jcX11_takes 9 rfl h
set_option maxRecDepth 100000 in
theorem gX11_part (d : Nat) (x1 x2 : Int) (m : jM) (Q : Int → jM → Prop)
    (h : ((m 103 22) = 0 → ((m 103 24) = 24 → jK d zX11_fail [jO 11 103] m (fun v1 m1 => Q 0 m1)) ∧ (¬ (m 103 24) = 24 → ((0 : Int) ≤ (m 103 24) ∧ ((m 103 24) : Int) < 24) ∧ ((0 : Int) ≤ (m 103 24) ∧ ((m 103 24) : Int) < 24) ∧ ((0 : Int) ≤ (m 103 24) ∧ ((m 103 24) : Int) < 24) ∧ ((0 : Int) ≤ (m 103 24) ∧ ((m 103 24) : Int) < 24) ∧ ((0 : Int) ≤ (m 103 24) ∧ ((m 103 24) : Int) < 24) ∧ ((0 : Int) ≤ (m 103 24) ∧ ((m 103 24) : Int) < 24) ∧ ((0 : Int) ≤ (m 103 24) ∧ ((m 103 24) : Int) < 24) ∧ Q (m 103 24) (jUp (jUp (jUp (jUp (jUp (jUp (jUp (jUp m 103 24 (w32 ((m 103 24) + 1))) 119 (m 103 24) x1) 120 (m 103 24) x2) 121 (m 103 24) 0) 122 (m 103 24) 0) 123 (m 103 24) 0) 124 (m 103 24) 0) 125 (m 103 24) ((jUp (jUp (jUp (jUp (jUp (jUp (jUp m 103 24 (w32 ((m 103 24) + 1))) 119 (m 103 24) x1) 120 (m 103 24) x2) 121 (m 103 24) 0) 122 (m 103 24) 0) 123 (m 103 24) 0) 124 (m 103 24) 0) 103 19)))) ∧ (¬ (m 103 22) = 0 → jK d zX11_fail [jO 11 103] m (fun v2 m2 => Q 0 m2))) :
    jK (d + 1) zX11_part [jO 11 103, jI x1, jI x2] m Q := jWp_sn0 [] jcX11_part 55 rfl h
set_option maxRecDepth 100000 in
theorem gX11_opens (d : Nat) (m : jM) (Q : Int → jM → Prop)
    (h : ((m 103 22) = 0 → ((m 103 21) = 5 → jK d zX11_fail [jO 11 103] m (fun v1 m1 => Q 0 m1)) ∧ (¬ (m 103 21) = 5 → Q 1 (jUp m 103 21 (w32 ((m 103 21) + 1))))) ∧ (¬ (m 103 22) = 0 → jK d zX11_fail [jO 11 103] m (fun v2 m2 => Q 0 m2))) :
    jK (d + 1) zX11_opens [jO 11 103] m Q := jWp_sn0 [] jcX11_opens 16 rfl h
set_option maxRecDepth 100000 in
theorem gX11_expression (d : Nat) (m : jM) (Q : Int → jM → Prop)
    (h : jK d zX11_sum [jO 11 103] m (fun v1 m1 => jK d zX11_isSign [jO 11 103, jI 60] m1 (fun v2 m2 => (v2 = 0 → Q v1 m2) ∧ (¬ v2 = 0 → jK d zX11_part [jO 11 103, jI 12, jI 0] m2 (fun v3 m3 => ((m3 103 22) = 0 → jK d zX11_next [jO 11 103] m3 (fun v4 m4 => ((0 : Int) ≤ v3 ∧ (v3 : Int) < 24) ∧ jK d zX11_sum [jO 11 103] (jUp m4 121 v3 v1) (fun v5 m5 => ((0 : Int) ≤ v3 ∧ (v3 : Int) < 24) ∧ jK d zX11_takes [jO 11 103, jI 63] (jUp m5 122 v3 v5) (fun v6 m6 => ((m6 103 22) = 0 → jK d zX11_expression [jO 11 103] m6 (fun v7 m7 => ((0 : Int) ≤ v3 ∧ (v3 : Int) < 24) ∧ jK d zX11_takes [jO 11 103, jI 58] (jUp m7 123 v3 v7) (fun v8 m8 => ((m8 103 22) = 0 → jK d zX11_expression [jO 11 103] m8 (fun v9 m9 => ((0 : Int) ≤ v3 ∧ (v3 : Int) < 24) ∧ Q v3 (jUp m9 124 v3 v9))) ∧ (¬ (m8 103 22) = 0 → Q 0 m8)))) ∧ (¬ (m6 103 22) = 0 → Q 0 m6))))) ∧ (¬ (m3 103 22) = 0 → Q 0 m3)))))) :
    jK (d + 1) zX11_expression [jO 11 103] m Q := jWp_sn0 [] jcX11_expression 55 rfl h
def aX11_sum_5 (d : Nat) (x1 : Int) (m : jM) (Q : Int → jM → Prop) : Prop := jA (d + 1) zX11_sum 5 [some (jO 11 103), some (jI x1), none] [] m Q
def aX11_sum_23 (d : Nat) (x1 : Int) (m : jM) (Q : Int → jM → Prop) : Prop := jA (d + 1) zX11_sum 23 [some (jO 11 103), some (jI x1), none] [] m Q
set_option maxRecDepth 100000 in
theorem gX11_sum (d : Nat) (m : jM) (Q : Int → jM → Prop)
    (h : jK d zX11_product [jO 11 103] m (fun v1 m1 => aX11_sum_5 d v1 m1 Q)) :
    jK (d + 1) zX11_sum [jO 11 103] m Q := jWp_sn0 [(5, [true, true, false]), (23, [true, true, false])] jcX11_sum 4 rfl h
set_option maxRecDepth 100000 in
theorem gX11_sum_5 (d : Nat) (x1 : Int) (m : jM) (Q : Int → jM → Prop)
    (h : jK d zX11_isSign [jO 11 103, jI 43] m (fun v1 m1 => (v1 = 0 → jK d zX11_isSign [jO 11 103, jI 45] m1 (fun v2 m2 => (v2 = 0 → Q x1 m2) ∧ (¬ v2 = 0 → aX11_sum_23 d x1 m2 Q))) ∧ (¬ v1 = 0 → aX11_sum_23 d x1 m1 Q))) :
    aX11_sum_5 d x1 m Q := jWp_snd [(5, [true, true, false]), (23, [true, true, false])] jcX11_sum 11 rfl h
set_option maxRecDepth 100000 in
theorem gX11_sum_23 (d : Nat) (x1 : Int) (m : jM) (Q : Int → jM → Prop)
    (h : ((m 103 20) = 43 → jK d zX11_part [jO 11 103, jI 3, jI 0] m (fun v1 m1 => ((m1 103 22) = 0 → jK d zX11_next [jO 11 103] m1 (fun v2 m2 => ((0 : Int) ≤ v1 ∧ (v1 : Int) < 24) ∧ jK d zX11_product [jO 11 103] (jUp m2 121 v1 x1) (fun v3 m3 => ((0 : Int) ≤ v1 ∧ (v1 : Int) < 24) ∧ aX11_sum_5 d v1 (jUp m3 122 v1 v3) Q))) ∧ (¬ (m1 103 22) = 0 → Q 0 m1))) ∧ (¬ (m 103 20) = 43 → jK d zX11_part [jO 11 103, jI 4, jI 0] m (fun v4 m4 => ((m4 103 22) = 0 → jK d zX11_next [jO 11 103] m4 (fun v5 m5 => ((0 : Int) ≤ v4 ∧ (v4 : Int) < 24) ∧ jK d zX11_product [jO 11 103] (jUp m5 121 v4 x1) (fun v6 m6 => ((0 : Int) ≤ v4 ∧ (v4 : Int) < 24) ∧ aX11_sum_5 d v4 (jUp m6 122 v4 v6) Q))) ∧ (¬ (m4 103 22) = 0 → Q 0 m4)))) :
    aX11_sum_23 d x1 m Q := jWp_snd [(5, [true, true, false]), (23, [true, true, false])] jcX11_sum 30 rfl h
def aX11_product_5 (d : Nat) (x1 : Int) (m : jM) (Q : Int → jM → Prop) : Prop := jA (d + 1) zX11_product 5 [some (jO 11 103), some (jI x1), none] [] m Q
set_option maxRecDepth 100000 in
theorem gX11_product (d : Nat) (m : jM) (Q : Int → jM → Prop)
    (h : jK d zX11_factor [jO 11 103] m (fun v1 m1 => aX11_product_5 d v1 m1 Q)) :
    jK (d + 1) zX11_product [jO 11 103] m Q := jWp_sn0 [(5, [true, true, false])] jcX11_product 4 rfl h
set_option maxRecDepth 100000 in
theorem gX11_product_5 (d : Nat) (x1 : Int) (m : jM) (Q : Int → jM → Prop)
    (h : jK d zX11_isSign [jO 11 103, jI 42] m (fun v1 m1 => (v1 = 0 → Q x1 m1) ∧ (¬ v1 = 0 → jK d zX11_part [jO 11 103, jI 5, jI 0] m1 (fun v2 m2 => ((m2 103 22) = 0 → jK d zX11_next [jO 11 103] m2 (fun v3 m3 => ((0 : Int) ≤ v2 ∧ (v2 : Int) < 24) ∧ jK d zX11_factor [jO 11 103] (jUp m3 121 v2 x1) (fun v4 m4 => ((0 : Int) ≤ v2 ∧ (v2 : Int) < 24) ∧ aX11_product_5 d v2 (jUp m4 122 v2 v4) Q))) ∧ (¬ (m2 103 22) = 0 → Q 0 m2))))) :
    aX11_product_5 d x1 m Q := jWp_snd [(5, [true, true, false])] jcX11_product 29 rfl h
def aX11_factor_107 (d : Nat) (m : jM) (Q : Int → jM → Prop) : Prop := jA (d + 1) zX11_factor 107 [some (jO 11 103), none] [] m Q
set_option maxRecDepth 100000 in
theorem gX11_factor (d : Nat) (m : jM) (Q : Int → jM → Prop)
    (h : ((m 103 22) = 0 → ((m 103 18) = 2 → jK d zX11_part [jO 11 103, jI 0, jI (m 103 20)] m (fun v1 m1 => ((m1 103 22) = 0 → jK d zX11_next [jO 11 103] m1 (fun v2 m2 => Q v1 m2)) ∧ (¬ (m1 103 22) = 0 → Q v1 m1))) ∧ (¬ (m 103 18) = 2 → ((m 103 18) = 1 → ((m 103 20) < 20 → aX11_factor_107 d  m Q) ∧ (¬ (m 103 20) < 20 → ((m 103 20) < 30 → jK d zX11_part [jO 11 103, jI 1, jI (w32 ((m 103 20) - 20))] m (fun v3 m3 => ((m3 103 22) = 0 → jK d zX11_next [jO 11 103] m3 (fun v4 m4 => Q v3 m4)) ∧ (¬ (m3 103 22) = 0 → Q v3 m3))) ∧ (¬ (m 103 20) < 30 → jK d zX11_part [jO 11 103, jI 2, jI (w32 ((m 103 20) - 30))] m (fun v5 m5 => ((m5 103 22) = 0 → jK d zX11_next [jO 11 103] m5 (fun v6 m6 => Q v5 m6)) ∧ (¬ (m5 103 22) = 0 → Q v5 m5))))) ∧ (¬ (m 103 18) = 1 → aX11_factor_107 d  m Q))) ∧ (¬ (m 103 22) = 0 → Q 0 m)) :
    jK (d + 1) zX11_factor [jO 11 103] m Q := jWp_sn0 [(107, [true, false])] jcX11_factor 36 rfl h
set_option maxRecDepth 100000 in
theorem gX11_factor_107 (d : Nat) (m : jM) (Q : Int → jM → Prop)
    (h : ((m 103 18) = 1 → jK d zX11_ofTwo [jO 11 103] m (fun v1 m1 => Q v1 m1)) ∧ (¬ (m 103 18) = 1 → jK d zX11_isSign [jO 11 103, jI 45] m (fun v2 m2 => (v2 = 0 → jK d zX11_isSign [jO 11 103, jI 40] m2 (fun v3 m3 => (v3 = 0 → jK d zX11_isSign [jO 11 103, jI 124] m3 (fun v4 m4 => (v4 = 0 → jK d zX11_fail [jO 11 103] m4 (fun v5 m5 => Q 0 m5)) ∧ (¬ v4 = 0 → jK d zX11_part [jO 11 103, jI 7, jI 0] m4 (fun v6 m6 => ((m6 103 22) = 0 → jK d zX11_opens [jO 11 103] m6 (fun v7 m7 => (v7 = 0 → Q 0 m7) ∧ (¬ v7 = 0 → jK d zX11_next [jO 11 103] m7 (fun v8 m8 => jK d zX11_expression [jO 11 103] m8 (fun v9 m9 => ((0 : Int) ≤ v6 ∧ (v6 : Int) < 24) ∧ jK d zX11_takes [jO 11 103, jI 124] (jUp m9 121 v6 v9) (fun v10 m10 => Q v6 (jUp m10 103 21 (w32 ((m10 103 21) - 1))))))))) ∧ (¬ (m6 103 22) = 0 → Q 0 m6))))) ∧ (¬ v3 = 0 → jK d zX11_opens [jO 11 103] m3 (fun v11 m11 => (v11 = 0 → Q 0 m11) ∧ (¬ v11 = 0 → jK d zX11_next [jO 11 103] m11 (fun v12 m12 => jK d zX11_expression [jO 11 103] m12 (fun v13 m13 => jK d zX11_takes [jO 11 103, jI 41] m13 (fun v14 m14 => Q v13 (jUp m14 103 21 (w32 ((m14 103 21) - 1))))))))))) ∧ (¬ v2 = 0 → jK d zX11_part [jO 11 103, jI 6, jI 0] m2 (fun v15 m15 => ((m15 103 22) = 0 → jK d zX11_next [jO 11 103] m15 (fun v16 m16 => jK d zX11_factor [jO 11 103] m16 (fun v17 m17 => ((0 : Int) ≤ v15 ∧ (v15 : Int) < 24) ∧ Q v15 (jUp m17 121 v15 v17)))) ∧ (¬ (m15 103 22) = 0 → Q 0 m15)))))) :
    aX11_factor_107 d  m Q := jWp_snd [(107, [true, false])] jcX11_factor 47 rfl h
set_option maxRecDepth 100000 in
theorem gX11_ofTwo (d : Nat) (m : jM) (Q : Int → jM → Prop)
    (h : jK d zX11_part [jO 11 103, jI (m 103 20), jI 0] m (fun v1 m1 => ((m1 103 22) = 0 → jK d zX11_next [jO 11 103] m1 (fun v2 m2 => jK d zX11_isSign [jO 11 103, jI 40] m2 (fun v3 m3 => (v3 = 0 → jK d zX11_fail [jO 11 103] m3 (fun v4 m4 => Q 0 m4)) ∧ (¬ v3 = 0 → jK d zX11_opens [jO 11 103] m3 (fun v5 m5 => (v5 = 0 → Q 0 m5) ∧ (¬ v5 = 0 → jK d zX11_next [jO 11 103] m5 (fun v6 m6 => jK d zX11_expression [jO 11 103] m6 (fun v7 m7 => ((0 : Int) ≤ v1 ∧ (v1 : Int) < 24) ∧ jK d zX11_takes [jO 11 103, jI 44] (jUp m7 121 v1 v7) (fun v8 m8 => ((m8 103 22) = 0 → jK d zX11_expression [jO 11 103] m8 (fun v9 m9 => ((0 : Int) ≤ v1 ∧ (v1 : Int) < 24) ∧ jK d zX11_takes [jO 11 103, jI 41] (jUp m9 122 v1 v9) (fun v10 m10 => Q v1 (jUp m10 103 21 (w32 ((m10 103 21) - 1)))))) ∧ (¬ (m8 103 22) = 0 → Q 0 m8)))))))))) ∧ (¬ (m1 103 22) = 0 → Q 0 m1))) :
    jK (d + 1) zX11_ofTwo [jO 11 103] m Q := jWp_sn0 [] jcX11_ofTwo 50 rfl h
def aX11_names_4 (d : Nat) (x1 x2 x3 : Int) (m : jM) (Q : Int → jM → Prop) : Prop := jA (d + 1) zX11_names 4 [some (jO 11 103), some (jI x1), some (jI x2), some (jI x3)] [] m Q
set_option maxRecDepth 100000 in
theorem gX11_names (d : Nat) (x1 : Int) (m : jM) (Q : Int → jM → Prop)
    (h : aX11_names_4 d x1 0 0 m Q) :
    jK (d + 1) zX11_names [jO 11 103, jI x1] m Q := jWp_sn0 [(4, [true, true, true, true])] jcX11_names 5 rfl h
set_option maxRecDepth 100000 in
theorem gX11_names_4 (d : Nat) (x1 x2 x3 : Int) (m : jM) (Q : Int → jM → Prop)
    (h : (x3 < 4 → ((0 : Int) ≤ (w32 ((w32 (4 * x1)) + x3)) ∧ ((w32 ((w32 (4 * x1)) + x3)) : Int) < 16) ∧ (0 < (m 110 (w32 ((w32 (4 * x1)) + x3))) → aX11_names_4 d x1 (iOr x2 (iShl 1 x3)) (w32 (x3 + 1)) m Q) ∧ (¬ 0 < (m 110 (w32 ((w32 (4 * x1)) + x3))) → aX11_names_4 d x1 x2 (w32 (x3 + 1)) m Q)) ∧ (¬ x3 < 4 → Q x2 m)) :
    aX11_names_4 d x1 x2 x3 m Q := jWp_snd [(4, [true, true, true, true])] jcX11_names 21 rfl h
def aX11_comesTo_8 (d : Nat) (x2 x3 : Int) (m : jM) (Q : Int → jM → Prop) : Prop := jA (d + 1) zX11_comesTo 8 [some (jO 11 103), none, some (jI x2), some (jI x3), none] [] m Q
def aX11_comesTo_16 (d : Nat) (x2 x3 x4 : Int) (m : jM) (Q : Int → jM → Prop) : Prop := jA (d + 1) zX11_comesTo 16 [some (jO 11 103), none, some (jI x2), some (jI x3), some (jI x4)] [] m Q
set_option maxRecDepth 100000 in
theorem gX11_comesTo (d : Nat) (x1 : Int) (m : jM) (Q : Int → jM → Prop)
    (h : jK d zX11_names [jO 11 103, jI x1] m (fun v1 m1 => aX11_comesTo_8 d v1 0 m1 Q)) :
    jK (d + 1) zX11_comesTo [jO 11 103, jI x1] m Q := jWp_sn0 [(8, [true, false, true, true, false]), (16, [true, false, true, true, true])] jcX11_comesTo 7 rfl h
set_option maxRecDepth 100000 in
theorem gX11_comesTo_8 (d : Nat) (x2 x3 : Int) (m : jM) (Q : Int → jM → Prop)
    (h : (x3 < 4 → aX11_comesTo_16 d x2 x3 0 m Q) ∧ (¬ x3 < 4 → Q x2 m)) :
    aX11_comesTo_8 d x2 x3 m Q := jWp_snd [(8, [true, false, true, true, false]), (16, [true, false, true, true, true])] jcX11_comesTo 6 rfl h
set_option maxRecDepth 100000 in
theorem gX11_comesTo_16 (d : Nat) (x2 x3 x4 : Int) (m : jM) (Q : Int → jM → Prop)
    (h : (x4 < 4 → ((iAnd (iShr x2 x4) 1) = 1 → jK d zX11_names [jO 11 103, jI x4] m (fun v1 m1 => aX11_comesTo_16 d (iOr x2 v1) x3 (w32 (x4 + 1)) m1 Q)) ∧ (¬ (iAnd (iShr x2 x4) 1) = 1 → aX11_comesTo_16 d x2 x3 (w32 (x4 + 1)) m Q)) ∧ (¬ x4 < 4 → aX11_comesTo_8 d x2 (w32 (x3 + 1)) m Q)) :
    aX11_comesTo_16 d x2 x3 x4 m Q := jWp_snd [(8, [true, false, true, true, false]), (16, [true, false, true, true, true])] jcX11_comesTo 19 rfl h
def aX11_weight_9 (d : Nat) (x1 x2 x3 : Int) (m : jM) (Q : Int → jM → Prop) : Prop := jA (d + 1) zX11_weight 9 [some (jO 11 103), some (jI x1), some (jI x2), some (jI x3)] [] m Q
set_option maxRecDepth 100000 in
theorem gX11_weight (d : Nat) (x1 : Int) (m : jM) (Q : Int → jM → Prop)
    (h : ((0 : Int) ≤ x1 ∧ (x1 : Int) < 4) ∧ aX11_weight_9 d x1 (m 108 x1) 0 m Q) :
    jK (d + 1) zX11_weight [jO 11 103, jI x1] m Q := jWp_sn0 [(9, [true, true, true, true])] jcX11_weight 8 rfl h
set_option maxRecDepth 100000 in
theorem gX11_weight_9 (d : Nat) (x1 x2 x3 : Int) (m : jM) (Q : Int → jM → Prop)
    (h : (x3 < 4 → ((0 : Int) ≤ (w32 ((w32 (4 * x1)) + x3)) ∧ ((w32 ((w32 (4 * x1)) + x3)) : Int) < 16) ∧ (0 < (m 110 (w32 ((w32 (4 * x1)) + x3))) → ((0 : Int) ≤ (w32 ((w32 (4 * x1)) + x3)) ∧ ((w32 ((w32 (4 * x1)) + x3)) : Int) < 16) ∧ jK d zX11_weight [jO 11 103, jI x3] m (fun v1 m1 => aX11_weight_9 d x1 (w32 (x2 + (w32 ((m 110 (w32 ((w32 (4 * x1)) + x3))) * v1)))) (w32 (x3 + 1)) m1 Q)) ∧ (¬ 0 < (m 110 (w32 ((w32 (4 * x1)) + x3))) → aX11_weight_9 d x1 x2 (w32 (x3 + 1)) m Q)) ∧ (¬ x3 < 4 → Q x2 m)) :
    aX11_weight_9 d x1 x2 x3 m Q := jWp_snd [(9, [true, true, true, true])] jcX11_weight 30 rfl h
def aX11_trades_2 (d : Nat) (x1 x2 : Int) (m : jM) (Q : Int → jM → Prop) : Prop := jA (d + 1) zX11_trades 2 [some (jO 11 103), some (jI x1), some (jI x2), none] [] m Q
set_option maxRecDepth 100000 in
theorem gX11_trades (d : Nat) (x1 : Int) (m : jM) (Q : Int → jM → Prop)
    (h : aX11_trades_2 d x1 0 m Q) :
    jK (d + 1) zX11_trades [jO 11 103, jI x1] m Q := jWp_sn0 [(2, [true, true, true, false])] jcX11_trades 3 rfl h
set_option maxRecDepth 100000 in
theorem gX11_trades_2 (d : Nat) (x1 x2 : Int) (m : jM) (Q : Int → jM → Prop)
    (h : (x2 < 4 → ((0 : Int) ≤ (w32 ((w32 (4 * x1)) + x2)) ∧ ((w32 ((w32 (4 * x1)) + x2)) : Int) < 16) ∧ ((0 : Int) ≤ x2 ∧ (x2 : Int) < 4) ∧ ((0 : Int) ≤ (w32 ((w32 (4 * x1)) + x2)) ∧ ((w32 ((w32 (4 * x1)) + x2)) : Int) < 16) ∧ ((0 : Int) ≤ x2 ∧ (x2 : Int) < 4) ∧ aX11_trades_2 d x1 (w32 (x2 + 1)) (jUp (jUp m 110 (w32 ((w32 (4 * x1)) + x2)) (m 126 x2)) 126 x2 (m 110 (w32 ((w32 (4 * x1)) + x2)))) Q) ∧ (¬ x2 < 4 → Q 0 m)) :
    aX11_trades_2 d x1 x2 m Q := jWp_snd [(2, [true, true, true, false])] jcX11_trades 32 rfl h
def aX11_isHeavy_2 (d : Nat) (x1 : Int) (m : jM) (Q : Int → jM → Prop) : Prop := jA (d + 1) zX11_isHeavy 2 [some (jO 11 103), some (jI x1)] [] m Q
set_option maxRecDepth 100000 in
theorem gX11_isHeavy (d : Nat) (m : jM) (Q : Int → jM → Prop)
    (h : aX11_isHeavy_2 d 0 m Q) :
    jK (d + 1) zX11_isHeavy [jO 11 103] m Q := jWp_sn0 [(2, [true, true])] jcX11_isHeavy 3 rfl h
set_option maxRecDepth 100000 in
theorem gX11_isHeavy_2 (d : Nat) (x1 : Int) (m : jM) (Q : Int → jM → Prop)
    (h : (x1 < 4 → jK d zX11_weight [jO 11 103, jI x1] m (fun v1 m1 => (60 < v1 → Q 1 m1) ∧ (¬ 60 < v1 → aX11_isHeavy_2 d (w32 (x1 + 1)) m1 Q))) ∧ (¬ x1 < 4 → Q 0 m)) :
    aX11_isHeavy_2 d x1 m Q := jWp_snd [(2, [true, true])] jcX11_isHeavy 11 rfl h
def aX11_text_77 (d : Nat) (x1 x2 x3 : Int) (m : jM) (Q : Int → jM → Prop) : Prop := jA (d + 1) zX11_text 77 [some (jO 11 103), some (jI x1), some (jI x2), some (jI x3), none, none] [] m Q
def aX11_text_97 (d : Nat) (x1 x2 x3 : Int) (m : jM) (Q : Int → jM → Prop) : Prop := jA (d + 1) zX11_text 97 [some (jO 11 103), some (jI x1), some (jI x2), some (jI x3), none, none] [] m Q
def aX11_text_211 (d : Nat) (x1 x4 : Int) (m : jM) (Q : Int → jM → Prop) : Prop := jA (d + 1) zX11_text 211 [some (jO 11 103), some (jI x1), none, none, some (jI x4), none] [] m Q
set_option maxRecDepth 100000 in
theorem gX11_text (d : Nat) (x1 : Int) (m : jM) (Q : Int → jM → Prop)
    (h : jK d zX11_in [jL x1, jL 0, jL 3] m (fun v1 m1 => (v1 = 0 → Q (-2) m1) ∧ (¬ v1 = 0 → jK d zX11_next [jO 11 103] (jUp (jUp (jUp (jUp m1 103 17 0) 103 21 0) 103 22 0) 103 24 0) (fun v2 m2 => jK d zX11_expression [jO 11 103] m2 (fun v3 m3 => ((m3 103 18) = 0 → (((jUp m3 103 16 0) 103 22) = 0 → aX11_text_77 d x1 v3 0 (jUp m3 103 16 0) Q) ∧ (¬ ((jUp m3 103 16 0) 103 22) = 0 → Q (w32 ((-100) - ((jUp m3 103 16 0) 103 23))) (jUp m3 103 16 0))) ∧ (¬ (m3 103 18) = 0 → jK d zX11_fail [jO 11 103] m3 (fun v4 m4 => (((jUp m4 103 16 0) 103 22) = 0 → aX11_text_77 d x1 v3 0 (jUp m4 103 16 0) Q) ∧ (¬ ((jUp m4 103 16 0) 103 22) = 0 → Q (w32 ((-100) - ((jUp m4 103 16 0) 103 23))) (jUp m4 103 16 0))))))))) :
    jK (d + 1) zX11_text [jO 11 103, jI x1] m Q := jWp_sn0 [(77, [true, true, true, true, false, false]), (97, [true, true, true, true, false, false]), (211, [true, true, false, false, true, false])] jcX11_text 40 rfl h
set_option maxRecDepth 100000 in
theorem gX11_text_77 (d : Nat) (x1 x2 x3 : Int) (m : jM) (Q : Int → jM → Prop)
    (h : (x3 < 4 → ((0 : Int) ≤ x3 ∧ (x3 : Int) < 4) ∧ aX11_text_77 d x1 x2 (w32 (x3 + 1)) (jUp m 126 x3 0) Q) ∧ (¬ x3 < 4 → aX11_text_97 d x1 x2 0 m Q)) :
    aX11_text_77 d x1 x2 x3 m Q := jWp_snd [(77, [true, true, true, true, false, false]), (97, [true, true, true, true, false, false]), (211, [true, true, false, false, true, false])] jcX11_text 11 rfl h
set_option maxRecDepth 100000 in
theorem gX11_text_97 (d : Nat) (x1 x2 x3 : Int) (m : jM) (Q : Int → jM → Prop)
    (h : (x3 < (m 103 24) → ((0 : Int) ≤ x3 ∧ (x3 : Int) < 24) ∧ ((m 119 x3) = 2 → ((0 : Int) ≤ x3 ∧ (x3 : Int) < 24) ∧ ((0 : Int) ≤ (m 120 x3) ∧ ((m 120 x3) : Int) < 4) ∧ ((0 : Int) ≤ (m 120 x3) ∧ ((m 120 x3) : Int) < 4) ∧ aX11_text_97 d x1 x2 (w32 (x3 + 1)) (jUp m 126 (m 120 x3) (w32 ((m 126 (m 120 x3)) + 1))) Q) ∧ (¬ (m 119 x3) = 2 → aX11_text_97 d x1 x2 (w32 (x3 + 1)) m Q)) ∧ (¬ x3 < (m 103 24) → jK d zX11_trades [jO 11 103, jI x1] m (fun v1 m1 => jK d zX11_comesTo [jO 11 103, jI x1] m1 (fun v2 m2 => ((iAnd (iShr v2 x1) 1) = 1 → jK d zX11_trades [jO 11 103, jI x1] m2 (fun v3 m3 => Q (-5) m3)) ∧ (¬ (iAnd (iShr v2 x1) 1) = 1 → ((0 : Int) ≤ x1 ∧ (x1 : Int) < 4) ∧ ((0 : Int) ≤ x1 ∧ (x1 : Int) < 4) ∧ jK d zX11_isHeavy [jO 11 103] (jUp m2 108 x1 (m2 103 24)) (fun v4 m4 => (v4 = 0 → ((0 : Int) ≤ x1 ∧ (x1 : Int) < 4) ∧ aX11_text_211 d x1 0 (jUp m4 109 x1 x2) Q) ∧ (¬ v4 = 0 → ((0 : Int) ≤ x1 ∧ (x1 : Int) < 4) ∧ jK d zX11_trades [jO 11 103, jI x1] (jUp m4 108 x1 (m2 108 x1)) (fun v5 m5 => Q (-4) m5)))))))) :
    aX11_text_97 d x1 x2 x3 m Q := jWp_snd [(77, [true, true, true, true, false, false]), (97, [true, true, true, true, false, false]), (211, [true, true, false, false, true, false])] jcX11_text 41 rfl h
set_option maxRecDepth 100000 in
theorem gX11_text_211 (d : Nat) (x1 x4 : Int) (m : jM) (Q : Int → jM → Prop)
    (h : (x4 < (m 103 24) → ((0 : Int) ≤ x4 ∧ (x4 : Int) < 24) ∧ ((0 : Int) ≤ (w32 ((w32 (24 * x1)) + x4)) ∧ ((w32 ((w32 (24 * x1)) + x4)) : Int) < 96) ∧ ((0 : Int) ≤ x4 ∧ (x4 : Int) < 24) ∧ ((0 : Int) ≤ (w32 ((w32 (24 * x1)) + x4)) ∧ ((w32 ((w32 (24 * x1)) + x4)) : Int) < 96) ∧ ((0 : Int) ≤ x4 ∧ (x4 : Int) < 24) ∧ ((0 : Int) ≤ (w32 ((w32 (24 * x1)) + x4)) ∧ ((w32 ((w32 (24 * x1)) + x4)) : Int) < 96) ∧ ((0 : Int) ≤ x4 ∧ (x4 : Int) < 24) ∧ ((0 : Int) ≤ (w32 ((w32 (24 * x1)) + x4)) ∧ ((w32 ((w32 (24 * x1)) + x4)) : Int) < 96) ∧ ((0 : Int) ≤ x4 ∧ (x4 : Int) < 24) ∧ ((0 : Int) ≤ (w32 ((w32 (24 * x1)) + x4)) ∧ ((w32 ((w32 (24 * x1)) + x4)) : Int) < 96) ∧ ((0 : Int) ≤ x4 ∧ (x4 : Int) < 24) ∧ ((0 : Int) ≤ (w32 ((w32 (24 * x1)) + x4)) ∧ ((w32 ((w32 (24 * x1)) + x4)) : Int) < 96) ∧ ((0 : Int) ≤ x4 ∧ (x4 : Int) < 24) ∧ ((0 : Int) ≤ (w32 ((w32 (24 * x1)) + x4)) ∧ ((w32 ((w32 (24 * x1)) + x4)) : Int) < 96) ∧ aX11_text_211 d x1 (w32 (x4 + 1)) (jUp (jUp (jUp (jUp (jUp (jUp (jUp m 111 (w32 ((w32 (24 * x1)) + x4)) (m 119 x4)) 112 (w32 ((w32 (24 * x1)) + x4)) ((jUp m 111 (w32 ((w32 (24 * x1)) + x4)) (m 119 x4)) 120 x4)) 113 (w32 ((w32 (24 * x1)) + x4)) ((jUp (jUp m 111 (w32 ((w32 (24 * x1)) + x4)) (m 119 x4)) 112 (w32 ((w32 (24 * x1)) + x4)) ((jUp m 111 (w32 ((w32 (24 * x1)) + x4)) (m 119 x4)) 120 x4)) 121 x4)) 114 (w32 ((w32 (24 * x1)) + x4)) ((jUp (jUp (jUp m 111 (w32 ((w32 (24 * x1)) + x4)) (m 119 x4)) 112 (w32 ((w32 (24 * x1)) + x4)) ((jUp m 111 (w32 ((w32 (24 * x1)) + x4)) (m 119 x4)) 120 x4)) 113 (w32 ((w32 (24 * x1)) + x4)) ((jUp (jUp m 111 (w32 ((w32 (24 * x1)) + x4)) (m 119 x4)) 112 (w32 ((w32 (24 * x1)) + x4)) ((jUp m 111 (w32 ((w32 (24 * x1)) + x4)) (m 119 x4)) 120 x4)) 121 x4)) 122 x4)) 115 (w32 ((w32 (24 * x1)) + x4)) ((jUp (jUp (jUp (jUp m 111 (w32 ((w32 (24 * x1)) + x4)) (m 119 x4)) 112 (w32 ((w32 (24 * x1)) + x4)) ((jUp m 111 (w32 ((w32 (24 * x1)) + x4)) (m 119 x4)) 120 x4)) 113 (w32 ((w32 (24 * x1)) + x4)) ((jUp (jUp m 111 (w32 ((w32 (24 * x1)) + x4)) (m 119 x4)) 112 (w32 ((w32 (24 * x1)) + x4)) ((jUp m 111 (w32 ((w32 (24 * x1)) + x4)) (m 119 x4)) 120 x4)) 121 x4)) 114 (w32 ((w32 (24 * x1)) + x4)) ((jUp (jUp (jUp m 111 (w32 ((w32 (24 * x1)) + x4)) (m 119 x4)) 112 (w32 ((w32 (24 * x1)) + x4)) ((jUp m 111 (w32 ((w32 (24 * x1)) + x4)) (m 119 x4)) 120 x4)) 113 (w32 ((w32 (24 * x1)) + x4)) ((jUp (jUp m 111 (w32 ((w32 (24 * x1)) + x4)) (m 119 x4)) 112 (w32 ((w32 (24 * x1)) + x4)) ((jUp m 111 (w32 ((w32 (24 * x1)) + x4)) (m 119 x4)) 120 x4)) 121 x4)) 122 x4)) 123 x4)) 116 (w32 ((w32 (24 * x1)) + x4)) ((jUp (jUp (jUp (jUp (jUp m 111 (w32 ((w32 (24 * x1)) + x4)) (m 119 x4)) 112 (w32 ((w32 (24 * x1)) + x4)) ((jUp m 111 (w32 ((w32 (24 * x1)) + x4)) (m 119 x4)) 120 x4)) 113 (w32 ((w32 (24 * x1)) + x4)) ((jUp (jUp m 111 (w32 ((w32 (24 * x1)) + x4)) (m 119 x4)) 112 (w32 ((w32 (24 * x1)) + x4)) ((jUp m 111 (w32 ((w32 (24 * x1)) + x4)) (m 119 x4)) 120 x4)) 121 x4)) 114 (w32 ((w32 (24 * x1)) + x4)) ((jUp (jUp (jUp m 111 (w32 ((w32 (24 * x1)) + x4)) (m 119 x4)) 112 (w32 ((w32 (24 * x1)) + x4)) ((jUp m 111 (w32 ((w32 (24 * x1)) + x4)) (m 119 x4)) 120 x4)) 113 (w32 ((w32 (24 * x1)) + x4)) ((jUp (jUp m 111 (w32 ((w32 (24 * x1)) + x4)) (m 119 x4)) 112 (w32 ((w32 (24 * x1)) + x4)) ((jUp m 111 (w32 ((w32 (24 * x1)) + x4)) (m 119 x4)) 120 x4)) 121 x4)) 122 x4)) 115 (w32 ((w32 (24 * x1)) + x4)) ((jUp (jUp (jUp (jUp m 111 (w32 ((w32 (24 * x1)) + x4)) (m 119 x4)) 112 (w32 ((w32 (24 * x1)) + x4)) ((jUp m 111 (w32 ((w32 (24 * x1)) + x4)) (m 119 x4)) 120 x4)) 113 (w32 ((w32 (24 * x1)) + x4)) ((jUp (jUp m 111 (w32 ((w32 (24 * x1)) + x4)) (m 119 x4)) 112 (w32 ((w32 (24 * x1)) + x4)) ((jUp m 111 (w32 ((w32 (24 * x1)) + x4)) (m 119 x4)) 120 x4)) 121 x4)) 114 (w32 ((w32 (24 * x1)) + x4)) ((jUp (jUp (jUp m 111 (w32 ((w32 (24 * x1)) + x4)) (m 119 x4)) 112 (w32 ((w32 (24 * x1)) + x4)) ((jUp m 111 (w32 ((w32 (24 * x1)) + x4)) (m 119 x4)) 120 x4)) 113 (w32 ((w32 (24 * x1)) + x4)) ((jUp (jUp m 111 (w32 ((w32 (24 * x1)) + x4)) (m 119 x4)) 112 (w32 ((w32 (24 * x1)) + x4)) ((jUp m 111 (w32 ((w32 (24 * x1)) + x4)) (m 119 x4)) 120 x4)) 121 x4)) 122 x4)) 123 x4)) 124 x4)) 117 (w32 ((w32 (24 * x1)) + x4)) ((jUp (jUp (jUp (jUp (jUp (jUp m 111 (w32 ((w32 (24 * x1)) + x4)) (m 119 x4)) 112 (w32 ((w32 (24 * x1)) + x4)) ((jUp m 111 (w32 ((w32 (24 * x1)) + x4)) (m 119 x4)) 120 x4)) 113 (w32 ((w32 (24 * x1)) + x4)) ((jUp (jUp m 111 (w32 ((w32 (24 * x1)) + x4)) (m 119 x4)) 112 (w32 ((w32 (24 * x1)) + x4)) ((jUp m 111 (w32 ((w32 (24 * x1)) + x4)) (m 119 x4)) 120 x4)) 121 x4)) 114 (w32 ((w32 (24 * x1)) + x4)) ((jUp (jUp (jUp m 111 (w32 ((w32 (24 * x1)) + x4)) (m 119 x4)) 112 (w32 ((w32 (24 * x1)) + x4)) ((jUp m 111 (w32 ((w32 (24 * x1)) + x4)) (m 119 x4)) 120 x4)) 113 (w32 ((w32 (24 * x1)) + x4)) ((jUp (jUp m 111 (w32 ((w32 (24 * x1)) + x4)) (m 119 x4)) 112 (w32 ((w32 (24 * x1)) + x4)) ((jUp m 111 (w32 ((w32 (24 * x1)) + x4)) (m 119 x4)) 120 x4)) 121 x4)) 122 x4)) 115 (w32 ((w32 (24 * x1)) + x4)) ((jUp (jUp (jUp (jUp m 111 (w32 ((w32 (24 * x1)) + x4)) (m 119 x4)) 112 (w32 ((w32 (24 * x1)) + x4)) ((jUp m 111 (w32 ((w32 (24 * x1)) + x4)) (m 119 x4)) 120 x4)) 113 (w32 ((w32 (24 * x1)) + x4)) ((jUp (jUp m 111 (w32 ((w32 (24 * x1)) + x4)) (m 119 x4)) 112 (w32 ((w32 (24 * x1)) + x4)) ((jUp m 111 (w32 ((w32 (24 * x1)) + x4)) (m 119 x4)) 120 x4)) 121 x4)) 114 (w32 ((w32 (24 * x1)) + x4)) ((jUp (jUp (jUp m 111 (w32 ((w32 (24 * x1)) + x4)) (m 119 x4)) 112 (w32 ((w32 (24 * x1)) + x4)) ((jUp m 111 (w32 ((w32 (24 * x1)) + x4)) (m 119 x4)) 120 x4)) 113 (w32 ((w32 (24 * x1)) + x4)) ((jUp (jUp m 111 (w32 ((w32 (24 * x1)) + x4)) (m 119 x4)) 112 (w32 ((w32 (24 * x1)) + x4)) ((jUp m 111 (w32 ((w32 (24 * x1)) + x4)) (m 119 x4)) 120 x4)) 121 x4)) 122 x4)) 123 x4)) 116 (w32 ((w32 (24 * x1)) + x4)) ((jUp (jUp (jUp (jUp (jUp m 111 (w32 ((w32 (24 * x1)) + x4)) (m 119 x4)) 112 (w32 ((w32 (24 * x1)) + x4)) ((jUp m 111 (w32 ((w32 (24 * x1)) + x4)) (m 119 x4)) 120 x4)) 113 (w32 ((w32 (24 * x1)) + x4)) ((jUp (jUp m 111 (w32 ((w32 (24 * x1)) + x4)) (m 119 x4)) 112 (w32 ((w32 (24 * x1)) + x4)) ((jUp m 111 (w32 ((w32 (24 * x1)) + x4)) (m 119 x4)) 120 x4)) 121 x4)) 114 (w32 ((w32 (24 * x1)) + x4)) ((jUp (jUp (jUp m 111 (w32 ((w32 (24 * x1)) + x4)) (m 119 x4)) 112 (w32 ((w32 (24 * x1)) + x4)) ((jUp m 111 (w32 ((w32 (24 * x1)) + x4)) (m 119 x4)) 120 x4)) 113 (w32 ((w32 (24 * x1)) + x4)) ((jUp (jUp m 111 (w32 ((w32 (24 * x1)) + x4)) (m 119 x4)) 112 (w32 ((w32 (24 * x1)) + x4)) ((jUp m 111 (w32 ((w32 (24 * x1)) + x4)) (m 119 x4)) 120 x4)) 121 x4)) 122 x4)) 115 (w32 ((w32 (24 * x1)) + x4)) ((jUp (jUp (jUp (jUp m 111 (w32 ((w32 (24 * x1)) + x4)) (m 119 x4)) 112 (w32 ((w32 (24 * x1)) + x4)) ((jUp m 111 (w32 ((w32 (24 * x1)) + x4)) (m 119 x4)) 120 x4)) 113 (w32 ((w32 (24 * x1)) + x4)) ((jUp (jUp m 111 (w32 ((w32 (24 * x1)) + x4)) (m 119 x4)) 112 (w32 ((w32 (24 * x1)) + x4)) ((jUp m 111 (w32 ((w32 (24 * x1)) + x4)) (m 119 x4)) 120 x4)) 121 x4)) 114 (w32 ((w32 (24 * x1)) + x4)) ((jUp (jUp (jUp m 111 (w32 ((w32 (24 * x1)) + x4)) (m 119 x4)) 112 (w32 ((w32 (24 * x1)) + x4)) ((jUp m 111 (w32 ((w32 (24 * x1)) + x4)) (m 119 x4)) 120 x4)) 113 (w32 ((w32 (24 * x1)) + x4)) ((jUp (jUp m 111 (w32 ((w32 (24 * x1)) + x4)) (m 119 x4)) 112 (w32 ((w32 (24 * x1)) + x4)) ((jUp m 111 (w32 ((w32 (24 * x1)) + x4)) (m 119 x4)) 120 x4)) 121 x4)) 122 x4)) 123 x4)) 124 x4)) 125 x4)) Q) ∧ (¬ x4 < (m 103 24) → Q (m 103 24) m)) :
    aX11_text_211 d x1 x4 m Q := jWp_snd [(77, [true, true, true, true, false, false]), (97, [true, true, true, true, false, false]), (211, [true, true, false, false, true, false])] jcX11_text 69 rfl h
def aX11_empty_31 (d : Nat) (x1 x2 x3 : Int) (m : jM) (Q : Int → jM → Prop) : Prop := jA (d + 1) zX11_empty 31 [some (jO 11 103), some (jI x1), some (jI x2), some (jI x3)] [] m Q
set_option maxRecDepth 100000 in
theorem gX11_empty (d : Nat) (x1 : Int) (m : jM) (Q : Int → jM → Prop)
    (h : jK d zX11_in [jL x1, jL 0, jL 3] m (fun v1 m1 => (v1 = 0 → Q (-2) m1) ∧ (¬ v1 = 0 → ((0 : Int) ≤ x1 ∧ (x1 : Int) < 4) ∧ ((0 : Int) ≤ x1 ∧ (x1 : Int) < 4) ∧ aX11_empty_31 d x1 (m1 108 x1) 0 (jUp m1 108 x1 0) Q))) :
    jK (d + 1) zX11_empty [jO 11 103, jI x1] m Q := jWp_sn0 [(31, [true, true, true, true])] jcX11_empty 19 rfl h
set_option maxRecDepth 100000 in
theorem gX11_empty_31 (d : Nat) (x1 x2 x3 : Int) (m : jM) (Q : Int → jM → Prop)
    (h : (x3 < 4 → ((0 : Int) ≤ (w32 ((w32 (4 * x1)) + x3)) ∧ ((w32 ((w32 (4 * x1)) + x3)) : Int) < 16) ∧ aX11_empty_31 d x1 x2 (w32 (x3 + 1)) (jUp m 110 (w32 ((w32 (4 * x1)) + x3)) 0) Q) ∧ (¬ x3 < 4 → Q x2 m)) :
    aX11_empty_31 d x1 x2 x3 m Q := jWp_snd [(31, [true, true, true, true])] jcX11_empty 15 rfl h
def aX11_told_76 (d : Nat) (x1 x3 x4 : Int) (m : jM) (Q : Int → jM → Prop) : Prop := jA (d + 1) zX11_told 76 [some (jO 11 103), some (jI x1), none, some (jI x3), some (jI x4)] [] m Q
set_option maxRecDepth 100000 in
theorem gX11_told (d : Nat) (x1 x2 : Int) (m : jM) (Q : Int → jM → Prop)
    (h : jK d zX11_in [jL x1, jL 0, jL 3] m (fun v1 m1 => (v1 = 0 → Q (-2) m1) ∧ (¬ v1 = 0 → jK d zX11_in [jL x2, jL 0, jL 4] m1 (fun v2 m2 => (v2 = 0 → Q (-2) m2) ∧ (¬ v2 = 0 → (x2 = 0 → ((0 : Int) ≤ x1 ∧ (x1 : Int) < 4) ∧ Q (m2 108 x1) m2) ∧ (¬ x2 = 0 → (x2 = 1 → jK d zX11_weight [jO 11 103, jI x1] m2 (fun v3 m3 => Q v3 m3)) ∧ (¬ x2 = 1 → (x2 = 2 → jK d zX11_names [jO 11 103, jI x1] m2 (fun v4 m4 => Q v4 m4)) ∧ (¬ x2 = 2 → (x2 = 4 → jK d zX11_comesTo [jO 11 103, jI x1] m2 (fun v5 m5 => Q v5 m5)) ∧ (¬ x2 = 4 → aX11_told_76 d x1 0 0 m2 Q))))))))) :
    jK (d + 1) zX11_told [jO 11 103, jI x1, jI x2] m Q := jWp_sn0 [(76, [true, true, false, true, true])] jcX11_told 28 rfl h
set_option maxRecDepth 100000 in
theorem gX11_told_76 (d : Nat) (x1 x3 x4 : Int) (m : jM) (Q : Int → jM → Prop)
    (h : (x4 < 4 → ((0 : Int) ≤ (w32 ((w32 (4 * x4)) + x1)) ∧ ((w32 ((w32 (4 * x4)) + x1)) : Int) < 16) ∧ (0 < (m 110 (w32 ((w32 (4 * x4)) + x1))) → aX11_told_76 d x1 (iOr x3 (iShl 1 x4)) (w32 (x4 + 1)) m Q) ∧ (¬ 0 < (m 110 (w32 ((w32 (4 * x4)) + x1))) → aX11_told_76 d x1 x3 (w32 (x4 + 1)) m Q)) ∧ (¬ x4 < 4 → Q x3 m)) :
    aX11_told_76 d x1 x3 x4 m Q := jWp_snd [(76, [true, true, false, true, true])] jcX11_told 21 rfl h
set_option maxRecDepth 100000 in
theorem gX11_fails (d : Nat) (x1 x2 x3 : Int) (m : jM) (Q : Int → jM → Prop)
    (h : ((0 : Int) ≤ x3 ∧ (x3 : Int) < 96) ∧ Q 0 (jUp (jUp (jUp (jUp (jUp m 103 33 x1) 103 34 ((jUp m 103 33 x1) 117 x3)) 103 35 1) 103 36 x2) 103 37 (-1))) :
    jK (d + 1) zX11_fails [jO 11 103, jI x1, jI x2, jI x3] m Q := jWp_sn0 [] jcX11_fails 21 rfl h
set_option maxRecDepth 100000 in
theorem gX11_valueOf (d : Nat) (x1 : Int) (m : jM) (Q : Int → jM → Prop)
    (h : ((0 : Int) ≤ x1 ∧ (x1 : Int) < 4) ∧ ((m 108 x1) = 0 → Q 0 m) ∧ (¬ (m 108 x1) = 0 → ((0 : Int) ≤ x1 ∧ (x1 : Int) < 4) ∧ jK d zX11_valueOf_ [jO 11 103, jI x1, jI (m 109 x1)] m (fun v1 m1 => Q v1 m1))) :
    jK (d + 1) zX11_valueOf [jO 11 103, jI x1] m Q := jWp_sn0 [] jcX11_valueOf 14 rfl h
set_option maxRecDepth 100000 in
theorem gX11_named (d : Nat) (x1 x2 : Int) (m : jM) (Q : Int → jM → Prop)
    (h : jK d zX11_valueOf [jO 11 103, jI x2] m (fun v1 m1 => ((m1 103 33) = 0 → Q v1 m1) ∧ (¬ (m1 103 33) = 0 → ((m1 103 35) = 1 → Q v1 (jUp (jUp m1 103 37 x1) 103 35 (w32 (((jUp m1 103 37 x1) 103 35) + 1)))) ∧ (¬ (m1 103 35) = 1 → Q v1 (jUp m1 103 35 (w32 ((m1 103 35) + 1))))))) :
    jK (d + 1) zX11_named [jO 11 103, jI x1, jI x2] m Q := jWp_sn0 [] jcX11_named 23 rfl h
set_option maxRecDepth 100000 in
theorem gX11_limited (d : Nat) (x1 x3 x4 : Int) (m : jM) (Q : Int → jM → Prop)
    (h : jK d zX11_in [jL x1, jL (-1000000000), jL 1000000000] m (fun v1 m1 => (v1 = 0 → jK d zX11_fails [jO 11 103, jI 2, jI x3, jI x4] m1 (fun v2 m2 => Q v2 m2)) ∧ (¬ v1 = 0 → Q x1 m1))) :
    jK (d + 1) zX11_limited [jO 11 103, jL x1, jI x3, jI x4] m Q := jWp_sn0 [] jcX11_limited 12 rfl h
set_option maxRecDepth 100000 in
theorem gX11_valueOf_ (d : Nat) (x1 x2 : Int) (m : jM) (Q : Int → jM → Prop)
    (h : ((0 : Int) ≤ (w32 ((w32 (24 * x1)) + x2)) ∧ ((w32 ((w32 (24 * x1)) + x2)) : Int) < 96) ∧ ((m 111 (w32 ((w32 (24 * x1)) + x2))) = 0 → ((0 : Int) ≤ (w32 ((w32 (24 * x1)) + x2)) ∧ ((w32 ((w32 (24 * x1)) + x2)) : Int) < 96) ∧ Q (m 112 (w32 ((w32 (24 * x1)) + x2))) m) ∧ (¬ (m 111 (w32 ((w32 (24 * x1)) + x2))) = 0 → ((m 111 (w32 ((w32 (24 * x1)) + x2))) = 1 → ((0 : Int) ≤ (w32 ((w32 (24 * x1)) + x2)) ∧ ((w32 ((w32 (24 * x1)) + x2)) : Int) < 96) ∧ ((m 112 (w32 ((w32 (24 * x1)) + x2))) < 3 → ((0 : Int) ≤ (w32 ((w32 (24 * x1)) + x2)) ∧ ((w32 ((w32 (24 * x1)) + x2)) : Int) < 96) ∧ ((0 : Int) ≤ (w32 ((w32 (3 * (m 103 38))) + (m 112 (w32 ((w32 (24 * x1)) + x2))))) ∧ ((w32 ((w32 (3 * (m 103 38))) + (m 112 (w32 ((w32 (24 * x1)) + x2))))) : Int) < 48) ∧ Q (m 105 (w32 ((w32 (3 * (m 103 38))) + (m 112 (w32 ((w32 (24 * x1)) + x2)))))) m) ∧ (¬ (m 112 (w32 ((w32 (24 * x1)) + x2))) < 3 → ((0 : Int) ≤ (w32 ((w32 (24 * x1)) + x2)) ∧ ((w32 ((w32 (24 * x1)) + x2)) : Int) < 96) ∧ ((0 : Int) ≤ (w32 ((w32 ((w32 (3 * (w32 (8 + (m 103 39))))) + (m 112 (w32 ((w32 (24 * x1)) + x2))))) - 3)) ∧ ((w32 ((w32 ((w32 (3 * (w32 (8 + (m 103 39))))) + (m 112 (w32 ((w32 (24 * x1)) + x2))))) - 3)) : Int) < 48) ∧ Q (m 105 (w32 ((w32 ((w32 (3 * (w32 (8 + (m 103 39))))) + (m 112 (w32 ((w32 (24 * x1)) + x2))))) - 3))) m)) ∧ (¬ (m 111 (w32 ((w32 (24 * x1)) + x2))) = 1 → ((m 111 (w32 ((w32 (24 * x1)) + x2))) = 2 → ((0 : Int) ≤ (w32 ((w32 (24 * x1)) + x2)) ∧ ((w32 ((w32 (24 * x1)) + x2)) : Int) < 96) ∧ jK d zX11_named [jO 11 103, jI x1, jI (m 112 (w32 ((w32 (24 * x1)) + x2)))] m (fun v1 m1 => Q v1 m1)) ∧ (¬ (m 111 (w32 ((w32 (24 * x1)) + x2))) = 2 → ((0 : Int) ≤ (w32 ((w32 (24 * x1)) + x2)) ∧ ((w32 ((w32 (24 * x1)) + x2)) : Int) < 96) ∧ jK d zX11_valueOf_ [jO 11 103, jI x1, jI (m 113 (w32 ((w32 (24 * x1)) + x2)))] m (fun v2 m2 => ((m2 103 33) = 0 → ((m 111 (w32 ((w32 (24 * x1)) + x2))) = 6 → jK d zX11_limited [jO 11 103, jL (w64 (-v2)), jI x1, jI (w32 ((w32 (24 * x1)) + x2))] m2 (fun v3 m3 => Q v3 m3)) ∧ (¬ (m 111 (w32 ((w32 (24 * x1)) + x2))) = 6 → ((m 111 (w32 ((w32 (24 * x1)) + x2))) = 7 → (v2 < 0 → Q (w64 (-v2)) m2) ∧ (¬ v2 < 0 → Q v2 m2)) ∧ (¬ (m 111 (w32 ((w32 (24 * x1)) + x2))) = 7 → ((0 : Int) ≤ (w32 ((w32 (24 * x1)) + x2)) ∧ ((w32 ((w32 (24 * x1)) + x2)) : Int) < 96) ∧ jK d zX11_valueOf_ [jO 11 103, jI x1, jI (m2 114 (w32 ((w32 (24 * x1)) + x2)))] m2 (fun v4 m4 => ((m4 103 33) = 0 → ((m 111 (w32 ((w32 (24 * x1)) + x2))) = 12 → (v2 < v4 → ((0 : Int) ≤ (w32 ((w32 (24 * x1)) + x2)) ∧ ((w32 ((w32 (24 * x1)) + x2)) : Int) < 96) ∧ jK d zX11_valueOf_ [jO 11 103, jI x1, jI (m4 115 (w32 ((w32 (24 * x1)) + x2)))] m4 (fun v5 m5 => Q v5 m5)) ∧ (¬ v2 < v4 → ((0 : Int) ≤ (w32 ((w32 (24 * x1)) + x2)) ∧ ((w32 ((w32 (24 * x1)) + x2)) : Int) < 96) ∧ jK d zX11_valueOf_ [jO 11 103, jI x1, jI (m4 116 (w32 ((w32 (24 * x1)) + x2)))] m4 (fun v6 m6 => Q v6 m6))) ∧ (¬ (m 111 (w32 ((w32 (24 * x1)) + x2))) = 12 → ((m 111 (w32 ((w32 (24 * x1)) + x2))) = 3 → jK d zX11_limited [jO 11 103, jL (w64 (v2 + v4)), jI x1, jI (w32 ((w32 (24 * x1)) + x2))] m4 (fun v7 m7 => Q v7 m7)) ∧ (¬ (m 111 (w32 ((w32 (24 * x1)) + x2))) = 3 → ((m 111 (w32 ((w32 (24 * x1)) + x2))) = 4 → jK d zX11_limited [jO 11 103, jL (w64 (v2 - v4)), jI x1, jI (w32 ((w32 (24 * x1)) + x2))] m4 (fun v8 m8 => Q v8 m8)) ∧ (¬ (m 111 (w32 ((w32 (24 * x1)) + x2))) = 4 → ((m 111 (w32 ((w32 (24 * x1)) + x2))) = 5 → jK d zX11_limited [jO 11 103, jL (w64 (v2 * v4)), jI x1, jI (w32 ((w32 (24 * x1)) + x2))] m4 (fun v9 m9 => Q v9 m9)) ∧ (¬ (m 111 (w32 ((w32 (24 * x1)) + x2))) = 5 → ((m 111 (w32 ((w32 (24 * x1)) + x2))) = 8 → (v2 < v4 → Q v2 m4) ∧ (¬ v2 < v4 → Q v4 m4)) ∧ (¬ (m 111 (w32 ((w32 (24 * x1)) + x2))) = 8 → ((m 111 (w32 ((w32 (24 * x1)) + x2))) = 9 → (v2 < v4 → Q v4 m4) ∧ (¬ v2 < v4 → Q v2 m4)) ∧ (¬ (m 111 (w32 ((w32 (24 * x1)) + x2))) = 9 → (v4 = 0 → jK d zX11_fails [jO 11 103, jI 1, jI x1, jI (w32 ((w32 (24 * x1)) + x2))] m4 (fun v10 m10 => Q v10 m10)) ∧ (¬ v4 = 0 → ((m 111 (w32 ((w32 (24 * x1)) + x2))) = 10 → jK d zJ9_floorDiv_f86c9 [jL v2, jL v4] m4 (fun v11 m11 => Q v11 m11)) ∧ (¬ (m 111 (w32 ((w32 (24 * x1)) + x2))) = 10 → jK d zJ9_floorMod_f86c9 [jL v2, jL v4] m4 (fun v12 m12 => Q v12 m12)))))))))) ∧ (¬ (m4 103 33) = 0 → Q 0 m4))))) ∧ (¬ (m2 103 33) = 0 → Q 0 m2)))))) :
    jK (d + 1) zX11_valueOf_ [jO 11 103, jI x1, jI x2] m Q := jWp_sn0 [] jcX11_valueOf_ 77 rfl h
set_option maxRecDepth 100000 in
theorem gX11_asked (d : Nat) (x1 x2 x3 : Int) (m : jM) (Q : Int → jM → Prop)
    (h : jK d zX11_valueOf [jO 11 103, jI x1] (jUp (jUp (jUp m 103 33 0) 103 38 x2) 103 39 x3) (fun v1 m1 => Q v1 m1)) :
    jK (d + 1) zX11_asked [jO 11 103, jI x1, jI x2, jI x3] m Q := jWp_sn0 [] jcX11_asked 14 rfl h
set_option maxRecDepth 100000 in
theorem gX11_value (d : Nat) (x1 x2 x3 : Int) (m : jM) (Q : Int → jM → Prop)
    (h : jK d zX11_in [jL x1, jL 0, jL 3] m (fun v1 m1 => (v1 = 0 → Q (-4611686018427387904) m1) ∧ (¬ v1 = 0 → jK d zX11_isPair [jI x2, jI x3] m1 (fun v2 m2 => (v2 = 0 → Q (-4611686018427387904) m2) ∧ (¬ v2 = 0 → jK d zX11_asked [jO 11 103, jI x1, jI x2, jI x3] m2 (fun v3 m3 => ((m3 103 33) = 0 → Q v3 m3) ∧ (¬ (m3 103 33) = 0 → Q (-4611686018427387904) m3))))))) :
    jK (d + 1) zX11_value [jO 11 103, jI x1, jI x2, jI x3] m Q := jWp_sn0 [] jcX11_value 23 rfl h
set_option maxRecDepth 100000 in
theorem gX11_why (d : Nat) (x1 x2 x3 : Int) (m : jM) (Q : Int → jM → Prop)
    (h : jK d zX11_isPair [jI x1, jI x2] m (fun v1 m1 => (v1 = 0 → Q (-2) m1) ∧ (¬ v1 = 0 → jK d zX11_in [jL x3, jL 0, jL 4] m1 (fun v2 m2 => (v2 = 0 → Q (-2) m2) ∧ (¬ v2 = 0 → jK d zX11_asked [jO 11 103, jI 0, jI x1, jI x2] m2 (fun v3 m3 => (x3 = 0 → Q (m3 103 33) m3) ∧ (¬ x3 = 0 → ((m3 103 33) = 0 → Q (-1) m3) ∧ (¬ (m3 103 33) = 0 → (x3 = 1 → Q (m3 103 34) m3) ∧ (¬ x3 = 1 → (x3 = 2 → Q (m3 103 35) m3) ∧ (¬ x3 = 2 → (x3 = 3 → Q (m3 103 36) m3) ∧ (¬ x3 = 3 → Q (m3 103 37) m3))))))))))) :
    jK (d + 1) zX11_why [jO 11 103, jI x1, jI x2, jI x3] m Q := jWp_sn0 [] jcX11_why 35 rfl h
set_option maxRecDepth 100000 in
theorem gX11_burdenOf (d : Nat) (x1 x2 : Int) (m : jM) (Q : Int → jM → Prop)
    (h : ((0 : Int) ≤ (w32 ((w32 (8 * x1)) + x2)) ∧ ((w32 ((w32 (8 * x1)) + x2)) : Int) < 64) ∧ ((m 106 (w32 ((w32 (8 * x1)) + x2))) = (-1) → jK d zX11_asked [jO 11 103, jI 0, jI x1, jI x2] m (fun v1 m1 => ((m1 103 33) = 0 → (v1 < 0 → Q 0 m1) ∧ (¬ v1 < 0 → Q v1 m1)) ∧ (¬ (m1 103 33) = 0 → Q (-1) m1))) ∧ (¬ (m 106 (w32 ((w32 (8 * x1)) + x2))) = (-1) → Q (m 106 (w32 ((w32 (8 * x1)) + x2))) m)) :
    jK (d + 1) zX11_burdenOf [jO 11 103, jI x1, jI x2] m Q := jWp_sn0 [] jcX11_burdenOf 28 rfl h
def aX11_forcedOf_5 (d : Nat) (n0 y0 x1 x2 x3 x4 : Int) (m : jM) (Q : Int → jM → Prop) : Prop := jA (d + 1) zX11_forcedOf 5 [some (jY 0 n0 y0), some (jI x1), some (jI x2), some (jI x3), some (jI x4)] [] m Q
def aX11_forcedOf_34 (d : Nat) (n0 y0 x1 x2 x3 x4 : Int) (m : jM) (Q : Int → jM → Prop) : Prop := jA (d + 1) zX11_forcedOf 34 [some (jY 0 n0 y0), some (jI x1), some (jI x2), some (jI x3), some (jI x4)] [] m Q
set_option maxRecDepth 100000 in
theorem gX11_forcedOf (d : Nat) (n0 y0 x1 x2 : Int) (m : jM) (Q : Int → jM → Prop)
    (h : aX11_forcedOf_5 d n0 y0 x1 x2 0 0 m Q) :
    jK (d + 1) zX11_forcedOf [jY 0 n0 y0, jI x1, jI x2] m Q := jWp_sn0 [(5, [true, true, true, true, true]), (34, [true, true, true, true, true])] jcX11_forcedOf 5 rfl h
set_option maxRecDepth 100000 in
theorem gX11_forcedOf_5 (d : Nat) (n0 y0 x1 x2 x3 x4 : Int) (m : jM) (Q : Int → jM → Prop)
    (h : (x4 < 8 → (x4 = x2 → aX11_forcedOf_34 d n0 y0 x1 x2 x3 x4 m Q) ∧ (¬ x4 = x2 → ((0 : Int) ≤ (w32 ((w32 (8 * x1)) + x4)) ∧ ((w32 ((w32 (8 * x1)) + x4)) : Int) < n0) ∧ ((m y0 (w32 ((w32 (8 * x1)) + x4))) = 2 → aX11_forcedOf_34 d n0 y0 x1 x2 (w32 (x3 + 1)) x4 m Q) ∧ (¬ (m y0 (w32 ((w32 (8 * x1)) + x4))) = 2 → aX11_forcedOf_34 d n0 y0 x1 x2 x3 x4 m Q))) ∧ (¬ x4 < 8 → Q x3 m)) :
    aX11_forcedOf_5 d n0 y0 x1 x2 x3 x4 m Q := jWp_snd [(5, [true, true, true, true, true]), (34, [true, true, true, true, true])] jcX11_forcedOf 17 rfl h
set_option maxRecDepth 100000 in
theorem gX11_forcedOf_34 (d : Nat) (n0 y0 x1 x2 x3 x4 : Int) (m : jM) (Q : Int → jM → Prop)
    (h : (x4 = x1 → aX11_forcedOf_5 d n0 y0 x1 x2 x3 (w32 (x4 + 1)) m Q) ∧ (¬ x4 = x1 → ((0 : Int) ≤ (w32 ((w32 (8 * x4)) + x2)) ∧ ((w32 ((w32 (8 * x4)) + x2)) : Int) < n0) ∧ ((m y0 (w32 ((w32 (8 * x4)) + x2))) = 2 → aX11_forcedOf_5 d n0 y0 x1 x2 (w32 (x3 + 1)) (w32 (x4 + 1)) m Q) ∧ (¬ (m y0 (w32 ((w32 (8 * x4)) + x2))) = 2 → aX11_forcedOf_5 d n0 y0 x1 x2 x3 (w32 (x4 + 1)) m Q))) :
    aX11_forcedOf_34 d n0 y0 x1 x2 x3 x4 m Q := jWp_snd [(5, [true, true, true, true, true]), (34, [true, true, true, true, true])] jcX11_forcedOf 16 rfl h
set_option maxRecDepth 100000 in
theorem gX11_isOpen (d : Nat) (n1 y1 x2 x3 : Int) (m : jM) (Q : Int → jM → Prop)
    (h : jK d zX11_isJudge [jO 11 103, jI x2] m (fun v1 m1 => (v1 = 0 → Q 0 m1) ∧ (¬ v1 = 0 → jK d zX11_isCase [jO 11 103, jI x3] m1 (fun v2 m2 => (v2 = 0 → Q 0 m2) ∧ (¬ v2 = 0 → ((0 : Int) ≤ (w32 ((w32 (8 * x2)) + x3)) ∧ ((w32 ((w32 (8 * x2)) + x3)) : Int) < 64) ∧ ((m2 127 (w32 ((w32 (8 * x2)) + x3))) = (-1) → Q 0 m2) ∧ (¬ (m2 127 (w32 ((w32 (8 * x2)) + x3))) = (-1) → ((0 : Int) ≤ (w32 ((w32 (8 * x2)) + x3)) ∧ ((w32 ((w32 (8 * x2)) + x3)) : Int) < n1) ∧ ((m2 y1 (w32 ((w32 (8 * x2)) + x3))) = 1 → Q 0 m2) ∧ (¬ (m2 y1 (w32 ((w32 (8 * x2)) + x3))) = 1 → jK d zX11_forcedOf [jY 0 n1 y1, jI x2, jI x3] m2 (fun v3 m3 => (v3 = 0 → Q 1 m3) ∧ (¬ v3 = 0 → Q 0 m3))))))))) :
    jK (d + 1) zX11_isOpen [jO 11 103, jY 0 n1 y1, jI x2, jI x3] m Q := jWp_sn0 [] jcX11_isOpen 34 rfl h
def aX11_tellsBurdens_2 (d : Nat) (x1 : Int) (m : jM) (Q : Int → jM → Prop) : Prop := jA (d + 1) zX11_tellsBurdens 2 [some (jO 11 103), some (jI x1)] [] m Q
set_option maxRecDepth 100000 in
theorem gX11_tellsBurdens (d : Nat) (m : jM) (Q : Int → jM → Prop)
    (h : aX11_tellsBurdens_2 d 0 m Q) :
    jK (d + 1) zX11_tellsBurdens [jO 11 103] m Q := jWp_sn0 [(2, [true, true])] jcX11_tellsBurdens 3 rfl h
set_option maxRecDepth 100000 in
theorem gX11_tellsBurdens_2 (d : Nat) (x1 : Int) (m : jM) (Q : Int → jM → Prop)
    (h : (x1 < 64 → (8 : Int) ≠ 0 ∧ (8 : Int) ≠ 0 ∧ jK d zX11_burdenOf [jO 11 103, jI (iDiv x1 8), jI (iRem x1 8)] m (fun v1 m1 => ((0 : Int) ≤ x1 ∧ (x1 : Int) < 64) ∧ aX11_tellsBurdens_2 d (w32 (x1 + 1)) (jUp m1 127 x1 v1) Q)) ∧ (¬ x1 < 64 → Q 0 m)) :
    aX11_tellsBurdens_2 d x1 m Q := jWp_snd [(2, [true, true])] jcX11_tellsBurdens 18 rfl h
def aX11_opens__2 (d : Nat) (n1 y1 x2 : Int) (m : jM) (Q : Int → jM → Prop) : Prop := jA (d + 1) zX11_opens_ 2 [some (jO 11 103), some (jY 0 n1 y1), some (jI x2)] [] m Q
set_option maxRecDepth 100000 in
theorem gX11_opens_ (d : Nat) (n1 y1 : Int) (m : jM) (Q : Int → jM → Prop)
    (h : aX11_opens__2 d n1 y1 0 m Q) :
    jK (d + 1) zX11_opens_ [jO 11 103, jY 0 n1 y1] m Q := jWp_sn0 [(2, [true, true, true])] jcX11_opens_ 3 rfl h
set_option maxRecDepth 100000 in
theorem gX11_opens__2 (d : Nat) (n1 y1 x2 : Int) (m : jM) (Q : Int → jM → Prop)
    (h : (x2 < 64 → (8 : Int) ≠ 0 ∧ (8 : Int) ≠ 0 ∧ jK d zX11_isOpen [jO 11 103, jY 0 n1 y1, jI (iDiv x2 8), jI (iRem x2 8)] m (fun v1 m1 => (v1 = 0 → ((0 : Int) ≤ x2 ∧ (x2 : Int) < 64) ∧ aX11_opens__2 d n1 y1 (w32 (x2 + 1)) (jUp m1 128 x2 (-1)) Q) ∧ (¬ v1 = 0 → ((0 : Int) ≤ x2 ∧ (x2 : Int) < 64) ∧ ((0 : Int) ≤ x2 ∧ (x2 : Int) < 64) ∧ aX11_opens__2 d n1 y1 (w32 (x2 + 1)) (jUp m1 128 x2 (m1 127 x2)) Q))) ∧ (¬ x2 < 64 → Q 0 m)) :
    aX11_opens__2 d n1 y1 x2 m Q := jWp_snd [(2, [true, true, true])] jcX11_opens_ 25 rfl h
set_option maxRecDepth 100000 in
theorem gX11_costs (d : Nat) (m : jM) (Q : Int → jM → Prop)
    (h : jK d zX11_tellsBurdens [jO 11 103] m (fun v1 m1 => jK d zX11_opens_ [jO 11 103, jY 0 64 107] m1 (fun v2 m2 => Q 0 m2))) :
    jK (d + 1) zX11_costs [jO 11 103] m Q := jWp_sn0 [] jcX11_costs 8 rfl h
set_option maxRecDepth 100000 in
theorem gX11_burden (d : Nat) (x1 x2 : Int) (m : jM) (Q : Int → jM → Prop)
    (h : jK d zX11_isPair [jI x1, jI x2] m (fun v1 m1 => (v1 = 0 → Q (-4611686018427387904) m1) ∧ (¬ v1 = 0 → jK d zX11_burdenOf [jO 11 103, jI x1, jI x2] m1 (fun v2 m2 => (v2 = (-1) → Q (-4611686018427387904) m2) ∧ (¬ v2 = (-1) → Q v2 m2))))) :
    jK (d + 1) zX11_burden [jO 11 103, jI x1, jI x2] m Q := jWp_sn0 [] jcX11_burden 16 rfl h
def aX11_mark_43 (d : Nat) (x1 x2 x3 : Int) (m : jM) (Q : Int → jM → Prop) : Prop := jA (d + 1) zX11_mark 43 [some (jO 11 103), some (jI x1), some (jI x2), some (jI x3), none] [] m Q
set_option maxRecDepth 100000 in
theorem gX11_mark (d : Nat) (x1 x2 x3 : Int) (m : jM) (Q : Int → jM → Prop)
    (h : jK d zX11_isPair [jI x1, jI x2] m (fun v1 m1 => (v1 = 0 → Q (-2) m1) ∧ (¬ v1 = 0 → jK d zX11_in [jL x3, jL 0, jL 2] m1 (fun v2 m2 => (v2 = 0 → Q (-2) m2) ∧ (¬ v2 = 0 → (x3 = 2 → jK d zX11_forcedOf [jY 0 64 107, jI x1, jI x2] m2 (fun v3 m3 => (0 < v3 → Q (-3) m3) ∧ (¬ 0 < v3 → aX11_mark_43 d x1 x2 x3 m3 Q))) ∧ (¬ x3 = 2 → aX11_mark_43 d x1 x2 x3 m2 Q)))))) :
    jK (d + 1) zX11_mark [jO 11 103, jI x1, jI x2, jI x3] m Q := jWp_sn0 [(43, [true, true, true, true, false])] jcX11_mark 22 rfl h
set_option maxRecDepth 100000 in
theorem gX11_mark_43 (d : Nat) (x1 x2 x3 : Int) (m : jM) (Q : Int → jM → Prop)
    (h : ((0 : Int) ≤ (w32 ((w32 (8 * x1)) + x2)) ∧ ((w32 ((w32 (8 * x1)) + x2)) : Int) < 64) ∧ ((0 : Int) ≤ (w32 ((w32 (8 * x1)) + x2)) ∧ ((w32 ((w32 (8 * x1)) + x2)) : Int) < 64) ∧ Q (m 107 (w32 ((w32 (8 * x1)) + x2))) (jUp m 107 (w32 ((w32 (8 * x1)) + x2)) x3)) :
    aX11_mark_43 d x1 x2 x3 m Q := jWp_snd [(43, [true, true, true, true, false])] jcX11_mark 21 rfl h
set_option maxRecDepth 100000 in
theorem gX11_open (d : Nat) (x1 x2 : Int) (m : jM) (Q : Int → jM → Prop)
    (h : jK d zX11_isPair [jI x1, jI x2] m (fun v1 m1 => (v1 = 0 → Q (-2) m1) ∧ (¬ v1 = 0 → jK d zX11_costs [jO 11 103] m1 (fun v2 m2 => ((0 : Int) ≤ (w32 ((w32 (8 * x1)) + x2)) ∧ ((w32 ((w32 (8 * x1)) + x2)) : Int) < 64) ∧ ((m2 128 (w32 ((w32 (8 * x1)) + x2))) = (-1) → Q 0 m2) ∧ (¬ (m2 128 (w32 ((w32 (8 * x1)) + x2))) = (-1) → Q 1 m2))))) :
    jK (d + 1) zX11_open [jO 11 103, jI x1, jI x2] m Q := jWp_sn0 [] jcX11_open 20 rfl h
def aX11_openMany_4 (d : Nat) (x1 x2 : Int) (m : jM) (Q : Int → jM → Prop) : Prop := jA (d + 1) zX11_openMany 4 [some (jO 11 103), some (jI x1), some (jI x2)] [] m Q
set_option maxRecDepth 100000 in
theorem gX11_openMany (d : Nat) (m : jM) (Q : Int → jM → Prop)
    (h : aX11_openMany_4 d 0 0 m Q) :
    jK (d + 1) zX11_openMany [jO 11 103] m Q := jWp_sn0 [(4, [true, true, true])] jcX11_openMany 5 rfl h
set_option maxRecDepth 100000 in
theorem gX11_openMany_4 (d : Nat) (x1 x2 : Int) (m : jM) (Q : Int → jM → Prop)
    (h : (x2 < 64 → ((0 : Int) ≤ x2 ∧ (x2 : Int) < 64) ∧ ((m 128 x2) = (-1) → aX11_openMany_4 d x1 (w32 (x2 + 1)) m Q) ∧ (¬ (m 128 x2) = (-1) → aX11_openMany_4 d (w32 (x1 + 1)) (w32 (x2 + 1)) m Q)) ∧ (¬ x2 < 64 → Q x1 m)) :
    aX11_openMany_4 d x1 x2 m Q := jWp_snd [(4, [true, true, true])] jcX11_openMany 13 rfl h
def aX11_least_2 (d : Nat) (x1 : Int) (m : jM) (Q : Int → jM → Prop) : Prop := jA (d + 1) zX11_least 2 [some (jO 11 103), some (jI x1), none, none, none, none, none, none] [] m Q
def aX11_least_40 (d : Nat) (x1 : Int) (m : jM) (Q : Int → jM → Prop) : Prop := jA (d + 1) zX11_least 40 [some (jO 11 103), some (jI x1), none, none, none, none, none, none] [] m Q
def aX11_least_46 (d : Nat) (x1 x2 : Int) (m : jM) (Q : Int → jM → Prop) : Prop := jA (d + 1) zX11_least 46 [some (jO 11 103), some (jI x1), some (jI x2), none, none, none, none, none] [] m Q
def aX11_least_122 (d : Nat) (x1 x2 x3 x4 : Int) (m : jM) (Q : Int → jM → Prop) : Prop := jA (d + 1) zX11_least 122 [some (jO 11 103), some (jI x1), some (jI x2), some (jI x3), some (jI x4), none, none, none] [] m Q
def aX11_least_251 (d : Nat) (x1 x2 x3 x4 x5 x6 : Int) (m : jM) (Q : Int → jM → Prop) : Prop := jA (d + 1) zX11_least 251 [some (jO 11 103), some (jI x1), some (jI x2), some (jI x3), some (jI x4), some (jI x5), some (jL x6), none] [] m Q
set_option maxRecDepth 100000 in
theorem gX11_least (d : Nat) (m : jM) (Q : Int → jM → Prop)
    (h : aX11_least_2 d 0 m Q) :
    jK (d + 1) zX11_least [jO 11 103] m Q := jWp_sn0 [(2, [true, true, false, false, false, false, false, false]), (40, [true, true, false, false, false, false, false, false]), (46, [true, true, true, false, false, false, false, false]), (122, [true, true, true, true, true, false, false, false]), (251, [true, true, true, true, true, true, true, false])] jcX11_least 3 rfl h
set_option maxRecDepth 100000 in
theorem gX11_least_2 (d : Nat) (x1 : Int) (m : jM) (Q : Int → jM → Prop)
    (h : (x1 < 256 → ((0 : Int) ≤ (w32 (2048 + x1)) ∧ ((w32 (2048 + x1)) : Int) < 2304) ∧ ((0 : Int) ≤ (w32 (2048 + x1)) ∧ ((w32 (2048 + x1)) : Int) < 2304) ∧ aX11_least_2 d (w32 (x1 + 1)) (jUp (jUp m 129 (w32 (2048 + x1)) 0) 130 (w32 (2048 + x1)) 1) Q) ∧ (¬ x1 < 256 → aX11_least_40 d 7 m Q)) :
    aX11_least_2 d x1 m Q := jWp_snd [(2, [true, true, false, false, false, false, false, false]), (40, [true, true, false, false, false, false, false, false]), (46, [true, true, true, false, false, false, false, false]), (122, [true, true, true, true, true, false, false, false]), (251, [true, true, true, true, true, true, true, false])] jcX11_least 20 rfl h
set_option maxRecDepth 100000 in
theorem gX11_least_40 (d : Nat) (x1 : Int) (m : jM) (Q : Int → jM → Prop)
    (h : (x1 < 0 → ((0 : Int) ≤ 0 ∧ (0 : Int) < 2304) ∧ Q (m 129 0) m) ∧ (¬ x1 < 0 → aX11_least_46 d x1 0 m Q)) :
    aX11_least_40 d x1 m Q := jWp_snd [(2, [true, true, false, false, false, false, false, false]), (40, [true, true, false, false, false, false, false, false]), (46, [true, true, true, false, false, false, false, false]), (122, [true, true, true, true, true, false, false, false]), (251, [true, true, true, true, true, true, true, false])] jcX11_least 8 rfl h
set_option maxRecDepth 100000 in
theorem gX11_least_46 (d : Nat) (x1 x2 : Int) (m : jM) (Q : Int → jM → Prop)
    (h : (x2 < 256 → jK d zX11_isCase [jO 11 103, jI x1] m (fun v1 m1 => (v1 = 0 → ((0 : Int) ≤ (w32 ((w32 ((w32 (x1 * 256)) + x2)) + 256)) ∧ ((w32 ((w32 ((w32 (x1 * 256)) + x2)) + 256)) : Int) < 2304) ∧ ((0 : Int) ≤ (w32 ((w32 (x1 * 256)) + x2)) ∧ ((w32 ((w32 (x1 * 256)) + x2)) : Int) < 2304) ∧ jK d zX11_isCase [jO 11 103, jI x1] (jUp m1 129 (w32 ((w32 (x1 * 256)) + x2)) (m1 129 (w32 ((w32 ((w32 (x1 * 256)) + x2)) + 256)))) (fun v2 m2 => (v2 = 0 → ((0 : Int) ≤ (w32 ((w32 ((w32 (x1 * 256)) + x2)) + 256)) ∧ ((w32 ((w32 ((w32 (x1 * 256)) + x2)) + 256)) : Int) < 2304) ∧ ((0 : Int) ≤ (w32 ((w32 (x1 * 256)) + x2)) ∧ ((w32 ((w32 (x1 * 256)) + x2)) : Int) < 2304) ∧ aX11_least_122 d x1 x2 (w32 ((w32 (x1 * 256)) + x2)) 0 (jUp m2 130 (w32 ((w32 (x1 * 256)) + x2)) (m2 130 (w32 ((w32 ((w32 (x1 * 256)) + x2)) + 256)))) Q) ∧ (¬ v2 = 0 → ((0 : Int) ≤ (w32 ((w32 (x1 * 256)) + x2)) ∧ ((w32 ((w32 (x1 * 256)) + x2)) : Int) < 2304) ∧ aX11_least_122 d x1 x2 (w32 ((w32 (x1 * 256)) + x2)) 0 (jUp m2 130 (w32 ((w32 (x1 * 256)) + x2)) 0) Q))) ∧ (¬ v1 = 0 → ((0 : Int) ≤ (w32 ((w32 (x1 * 256)) + x2)) ∧ ((w32 ((w32 (x1 * 256)) + x2)) : Int) < 2304) ∧ jK d zX11_isCase [jO 11 103, jI x1] (jUp m1 129 (w32 ((w32 (x1 * 256)) + x2)) 1125899906842624) (fun v3 m3 => (v3 = 0 → ((0 : Int) ≤ (w32 ((w32 ((w32 (x1 * 256)) + x2)) + 256)) ∧ ((w32 ((w32 ((w32 (x1 * 256)) + x2)) + 256)) : Int) < 2304) ∧ ((0 : Int) ≤ (w32 ((w32 (x1 * 256)) + x2)) ∧ ((w32 ((w32 (x1 * 256)) + x2)) : Int) < 2304) ∧ aX11_least_122 d x1 x2 (w32 ((w32 (x1 * 256)) + x2)) 0 (jUp m3 130 (w32 ((w32 (x1 * 256)) + x2)) (m3 130 (w32 ((w32 ((w32 (x1 * 256)) + x2)) + 256)))) Q) ∧ (¬ v3 = 0 → ((0 : Int) ≤ (w32 ((w32 (x1 * 256)) + x2)) ∧ ((w32 ((w32 (x1 * 256)) + x2)) : Int) < 2304) ∧ aX11_least_122 d x1 x2 (w32 ((w32 (x1 * 256)) + x2)) 0 (jUp m3 130 (w32 ((w32 (x1 * 256)) + x2)) 0) Q))))) ∧ (¬ x2 < 256 → aX11_least_40 d (w32 (x1 + (-1))) m Q)) :
    aX11_least_46 d x1 x2 m Q := jWp_snd [(2, [true, true, false, false, false, false, false, false]), (40, [true, true, false, false, false, false, false, false]), (46, [true, true, true, false, false, false, false, false]), (122, [true, true, true, true, true, false, false, false]), (251, [true, true, true, true, true, true, true, false])] jcX11_least 40 rfl h
set_option maxRecDepth 100000 in
theorem gX11_least_122 (d : Nat) (x1 x2 x3 x4 : Int) (m : jM) (Q : Int → jM → Prop)
    (h : (x4 < 8 → jK d zX11_isCase [jO 11 103, jI x1] m (fun v1 m1 => (v1 = 0 → aX11_least_46 d x1 (w32 (x2 + 1)) m1 Q) ∧ (¬ v1 = 0 → ((iAnd (iShr x2 x4) 1) = 1 → aX11_least_122 d x1 x2 x3 (w32 (x4 + 1)) m1 Q) ∧ (¬ (iAnd (iShr x2 x4) 1) = 1 → ((0 : Int) ≤ (w32 ((w32 (8 * x4)) + x1)) ∧ ((w32 ((w32 (8 * x4)) + x1)) : Int) < 64) ∧ ((m1 128 (w32 ((w32 (8 * x4)) + x1))) = (-1) → aX11_least_122 d x1 x2 x3 (w32 (x4 + 1)) m1 Q) ∧ (¬ (m1 128 (w32 ((w32 (8 * x4)) + x1))) = (-1) → ((0 : Int) ≤ (w32 ((w32 ((w32 (x1 + 1)) * 256)) + (iOr x2 (iShl 1 x4)))) ∧ ((w32 ((w32 ((w32 (x1 + 1)) * 256)) + (iOr x2 (iShl 1 x4)))) : Int) < 2304) ∧ ((m1 129 (w32 ((w32 ((w32 (x1 + 1)) * 256)) + (iOr x2 (iShl 1 x4))))) = 1125899906842624 → aX11_least_122 d x1 x2 x3 (w32 (x4 + 1)) m1 Q) ∧ (¬ (m1 129 (w32 ((w32 ((w32 (x1 + 1)) * 256)) + (iOr x2 (iShl 1 x4))))) = 1125899906842624 → ((0 : Int) ≤ (w32 ((w32 (8 * x4)) + x1)) ∧ ((w32 ((w32 (8 * x4)) + x1)) : Int) < 64) ∧ ((0 : Int) ≤ (w32 ((w32 ((w32 (x1 + 1)) * 256)) + (iOr x2 (iShl 1 x4)))) ∧ ((w32 ((w32 ((w32 (x1 + 1)) * 256)) + (iOr x2 (iShl 1 x4)))) : Int) < 2304) ∧ ((0 : Int) ≤ x3 ∧ (x3 : Int) < 2304) ∧ ((w64 ((m1 128 (w32 ((w32 (8 * x4)) + x1))) + (m1 129 (w32 ((w32 ((w32 (x1 + 1)) * 256)) + (iOr x2 (iShl 1 x4))))))) < (m1 129 x3) → ((0 : Int) ≤ x3 ∧ (x3 : Int) < 2304) ∧ ((0 : Int) ≤ x3 ∧ (x3 : Int) < 2304) ∧ aX11_least_251 d x1 x2 x3 x4 (w32 ((w32 ((w32 (x1 + 1)) * 256)) + (iOr x2 (iShl 1 x4)))) (w64 ((m1 128 (w32 ((w32 (8 * x4)) + x1))) + (m1 129 (w32 ((w32 ((w32 (x1 + 1)) * 256)) + (iOr x2 (iShl 1 x4))))))) (jUp (jUp m1 129 x3 (w64 ((m1 128 (w32 ((w32 (8 * x4)) + x1))) + (m1 129 (w32 ((w32 ((w32 (x1 + 1)) * 256)) + (iOr x2 (iShl 1 x4)))))))) 130 x3 0) Q) ∧ (¬ (w64 ((m1 128 (w32 ((w32 (8 * x4)) + x1))) + (m1 129 (w32 ((w32 ((w32 (x1 + 1)) * 256)) + (iOr x2 (iShl 1 x4))))))) < (m1 129 x3) → aX11_least_251 d x1 x2 x3 x4 (w32 ((w32 ((w32 (x1 + 1)) * 256)) + (iOr x2 (iShl 1 x4)))) (w64 ((m1 128 (w32 ((w32 (8 * x4)) + x1))) + (m1 129 (w32 ((w32 ((w32 (x1 + 1)) * 256)) + (iOr x2 (iShl 1 x4))))))) m1 Q))))))) ∧ (¬ x4 < 8 → aX11_least_46 d x1 (w32 (x2 + 1)) m Q)) :
    aX11_least_122 d x1 x2 x3 x4 m Q := jWp_snd [(2, [true, true, false, false, false, false, false, false]), (40, [true, true, false, false, false, false, false, false]), (46, [true, true, true, false, false, false, false, false]), (122, [true, true, true, true, true, false, false, false]), (251, [true, true, true, true, true, true, true, false])] jcX11_least 73 rfl h
set_option maxRecDepth 100000 in
theorem gX11_least_251 (d : Nat) (x1 x2 x3 x4 x5 x6 : Int) (m : jM) (Q : Int → jM → Prop)
    (h : ((0 : Int) ≤ x3 ∧ (x3 : Int) < 2304) ∧ (x6 = (m 129 x3) → ((0 : Int) ≤ x3 ∧ (x3 : Int) < 2304) ∧ ((0 : Int) ≤ x5 ∧ (x5 : Int) < 2304) ∧ ((0 : Int) ≤ x3 ∧ (x3 : Int) < 2304) ∧ aX11_least_122 d x1 x2 x3 (w32 (x4 + 1)) (jUp m 130 x3 (w32 ((m 130 x3) + (m 130 x5)))) Q) ∧ (¬ x6 = (m 129 x3) → aX11_least_122 d x1 x2 x3 (w32 (x4 + 1)) m Q)) :
    aX11_least_251 d x1 x2 x3 x4 x5 x6 m Q := jWp_snd [(2, [true, true, false, false, false, false, false, false]), (40, [true, true, false, false, false, false, false, false]), (46, [true, true, true, false, false, false, false, false]), (122, [true, true, true, true, true, false, false, false]), (251, [true, true, true, true, true, true, true, false])] jcX11_least 20 rfl h
set_option maxRecDepth 100000 in
theorem gX11_toldOr (d : Nat) (x0 : Int) (m : jM) (Q : Int → jM → Prop)
    (h : (x0 = 1125899906842624 → Q (-4611686018427387904) m) ∧ (¬ x0 = 1125899906842624 → Q x0 m)) :
    jK (d + 1) zX11_toldOr [jL x0] m Q := jWp_sn0 [] jcX11_toldOr 7 rfl h
def aX11_picks_7 (d : Nat) (x2 x3 x4 : Int) (m : jM) (Q : Int → jM → Prop) : Prop := jA (d + 1) zX11_picks 7 [some (jO 11 103), none, some (jI x2), some (jI x3), some (jI x4), none, none] [] m Q
def aX11_picks_25 (d : Nat) (x2 x3 x4 x5 : Int) (m : jM) (Q : Int → jM → Prop) : Prop := jA (d + 1) zX11_picks 25 [some (jO 11 103), none, some (jI x2), some (jI x3), some (jI x4), some (jI x5), none] [] m Q
def aX11_picks_196 (d : Nat) (x2 x3 x4 : Int) (m : jM) (Q : Int → jM → Prop) : Prop := jA (d + 1) zX11_picks 196 [some (jO 11 103), none, some (jI x2), some (jI x3), some (jI x4), none, none] [] m Q
set_option maxRecDepth 100000 in
theorem gX11_picks (d : Nat) (x1 : Int) (m : jM) (Q : Int → jM → Prop)
    (h : aX11_picks_7 d x1 0 0 m Q) :
    jK (d + 1) zX11_picks [jO 11 103, jI x1] m Q := jWp_sn0 [(7, [true, false, true, true, true, false, false]), (25, [true, false, true, true, true, true, false]), (196, [true, false, true, true, true, false, false])] jcX11_picks 7 rfl h
set_option maxRecDepth 100000 in
theorem gX11_picks_7 (d : Nat) (x2 x3 x4 : Int) (m : jM) (Q : Int → jM → Prop)
    (h : (x4 < 8 → ((0 : Int) ≤ x4 ∧ (x4 : Int) < 8) ∧ aX11_picks_25 d x2 x3 x4 0 (jUp m 131 x4 (-1)) Q) ∧ (¬ x4 < 8 → Q 0 m)) :
    aX11_picks_7 d x2 x3 x4 m Q := jWp_snd [(7, [true, false, true, true, true, false, false]), (25, [true, false, true, true, true, true, false]), (196, [true, false, true, true, true, false, false])] jcX11_picks 11 rfl h
set_option maxRecDepth 100000 in
theorem gX11_picks_25 (d : Nat) (x2 x3 x4 x5 : Int) (m : jM) (Q : Int → jM → Prop)
    (h : (x5 < 8 → jK d zX11_isCase [jO 11 103, jI x4] m (fun v1 m1 => (v1 = 0 → aX11_picks_196 d x2 x3 x4 m1 Q) ∧ (¬ v1 = 0 → ((0 : Int) ≤ x4 ∧ (x4 : Int) < 8) ∧ ((m1 131 x4) = (-1) → ((iAnd (iShr x3 x5) 1) = 1 → aX11_picks_25 d x2 x3 x4 (w32 (x5 + 1)) m1 Q) ∧ (¬ (iAnd (iShr x3 x5) 1) = 1 → ((0 : Int) ≤ (w32 ((w32 (8 * x5)) + x4)) ∧ ((w32 ((w32 (8 * x5)) + x4)) : Int) < 64) ∧ ((m1 128 (w32 ((w32 (8 * x5)) + x4))) = (-1) → aX11_picks_25 d x2 x3 x4 (w32 (x5 + 1)) m1 Q) ∧ (¬ (m1 128 (w32 ((w32 (8 * x5)) + x4))) = (-1) → ((0 : Int) ≤ (w32 ((w32 ((w32 (x4 + 1)) * 256)) + (iOr x3 (iShl 1 x5)))) ∧ ((w32 ((w32 ((w32 (x4 + 1)) * 256)) + (iOr x3 (iShl 1 x5)))) : Int) < 2304) ∧ ((m1 129 (w32 ((w32 ((w32 (x4 + 1)) * 256)) + (iOr x3 (iShl 1 x5))))) = 1125899906842624 → aX11_picks_25 d x2 x3 x4 (w32 (x5 + 1)) m1 Q) ∧ (¬ (m1 129 (w32 ((w32 ((w32 (x4 + 1)) * 256)) + (iOr x3 (iShl 1 x5))))) = 1125899906842624 → ((0 : Int) ≤ (w32 ((w32 (8 * x5)) + x4)) ∧ ((w32 ((w32 (8 * x5)) + x4)) : Int) < 64) ∧ ((0 : Int) ≤ (w32 ((w32 ((w32 (x4 + 1)) * 256)) + (iOr x3 (iShl 1 x5)))) ∧ ((w32 ((w32 ((w32 (x4 + 1)) * 256)) + (iOr x3 (iShl 1 x5)))) : Int) < 2304) ∧ ((0 : Int) ≤ (w32 ((w32 (x4 * 256)) + x3)) ∧ ((w32 ((w32 (x4 * 256)) + x3)) : Int) < 2304) ∧ ((w64 ((m1 128 (w32 ((w32 (8 * x5)) + x4))) + (m1 129 (w32 ((w32 ((w32 (x4 + 1)) * 256)) + (iOr x3 (iShl 1 x5))))))) = (m1 129 (w32 ((w32 (x4 * 256)) + x3))) → ((0 : Int) ≤ (w32 ((w32 ((w32 (x4 + 1)) * 256)) + (iOr x3 (iShl 1 x5)))) ∧ ((w32 ((w32 ((w32 (x4 + 1)) * 256)) + (iOr x3 (iShl 1 x5)))) : Int) < 2304) ∧ (x2 < (m1 130 (w32 ((w32 ((w32 (x4 + 1)) * 256)) + (iOr x3 (iShl 1 x5))))) → ((0 : Int) ≤ x4 ∧ (x4 : Int) < 8) ∧ aX11_picks_25 d x2 x3 x4 (w32 (x5 + 1)) (jUp m1 131 x4 x5) Q) ∧ (¬ x2 < (m1 130 (w32 ((w32 ((w32 (x4 + 1)) * 256)) + (iOr x3 (iShl 1 x5))))) → ((0 : Int) ≤ (w32 ((w32 ((w32 (x4 + 1)) * 256)) + (iOr x3 (iShl 1 x5)))) ∧ ((w32 ((w32 ((w32 (x4 + 1)) * 256)) + (iOr x3 (iShl 1 x5)))) : Int) < 2304) ∧ aX11_picks_25 d (w32 (x2 - (m1 130 (w32 ((w32 ((w32 (x4 + 1)) * 256)) + (iOr x3 (iShl 1 x5))))))) x3 x4 (w32 (x5 + 1)) m1 Q)) ∧ (¬ (w64 ((m1 128 (w32 ((w32 (8 * x5)) + x4))) + (m1 129 (w32 ((w32 ((w32 (x4 + 1)) * 256)) + (iOr x3 (iShl 1 x5))))))) = (m1 129 (w32 ((w32 (x4 * 256)) + x3))) → aX11_picks_25 d x2 x3 x4 (w32 (x5 + 1)) m1 Q))))) ∧ (¬ (m1 131 x4) = (-1) → aX11_picks_196 d x2 x3 x4 m1 Q)))) ∧ (¬ x5 < 8 → aX11_picks_196 d x2 x3 x4 m Q)) :
    aX11_picks_25 d x2 x3 x4 x5 m Q := jWp_snd [(7, [true, false, true, true, true, false, false]), (25, [true, false, true, true, true, true, false]), (196, [true, false, true, true, true, false, false])] jcX11_picks 87 rfl h
set_option maxRecDepth 100000 in
theorem gX11_picks_196 (d : Nat) (x2 x3 x4 : Int) (m : jM) (Q : Int → jM → Prop)
    (h : ((0 : Int) ≤ x4 ∧ (x4 : Int) < 8) ∧ ((m 131 x4) = (-1) → aX11_picks_7 d x2 x3 (w32 (x4 + 1)) m Q) ∧ (¬ (m 131 x4) = (-1) → ((0 : Int) ≤ x4 ∧ (x4 : Int) < 8) ∧ aX11_picks_7 d x2 (iOr x3 (iShl 1 (m 131 x4))) (w32 (x4 + 1)) m Q)) :
    aX11_picks_196 d x2 x3 x4 m Q := jWp_snd [(7, [true, false, true, true, true, false, false]), (25, [true, false, true, true, true, true, false]), (196, [true, false, true, true, true, false, false])] jcX11_picks 18 rfl h
set_option maxRecDepth 100000 in
theorem gX11_tell (d : Nat) (x1 x2 x3 : Int) (m : jM) (Q : Int → jM → Prop)
    (h : jK d zX11_isPair [jI x1, jI x2] m (fun v1 m1 => (v1 = 0 → Q (-2) m1) ∧ (¬ v1 = 0 → jK d zX11_in [jL x3, jL (-1), jL 1000000000] m1 (fun v2 m2 => (v2 = 0 → Q (-2) m2) ∧ (¬ v2 = 0 → ((0 : Int) ≤ (w32 ((w32 (8 * x1)) + x2)) ∧ ((w32 ((w32 (8 * x1)) + x2)) : Int) < 64) ∧ jK d zX11_total [jO 11 103] (jUp m2 106 (w32 ((w32 (8 * x1)) + x2)) x3) (fun v3 m3 => Q v3 m3)))))) :
    jK (d + 1) zX11_tell [jO 11 103, jI x1, jI x2, jL x3] m Q := jWp_sn0 [] jcX11_tell 22 rfl h
set_option maxRecDepth 100000 in
theorem gX11_total (d : Nat) (m : jM) (Q : Int → jM → Prop)
    (h : jK d zX11_costs [jO 11 103] m (fun v1 m1 => jK d zX11_least [jO 11 103] m1 (fun v2 m2 => jK d zX11_toldOr [jL v2] m2 (fun v3 m3 => Q v3 m3)))) :
    jK (d + 1) zX11_total [jO 11 103] m Q := jWp_sn0 [] jcX11_total 7 rfl h
set_option maxRecDepth 100000 in
theorem gX11_many (d : Nat) (m : jM) (Q : Int → jM → Prop)
    (h : jK d zX11_costs [jO 11 103] m (fun v1 m1 => jK d zX11_least [jO 11 103] m1 (fun v2 m2 => (v2 = 1125899906842624 → Q 0 m2) ∧ (¬ v2 = 1125899906842624 → ((0 : Int) ≤ 0 ∧ (0 : Int) < 2304) ∧ Q (m2 130 0) m2)))) :
    jK (d + 1) zX11_many [jO 11 103] m Q := jWp_sn0 [] jcX11_many 12 rfl h
set_option maxRecDepth 100000 in
theorem gX11_best (d : Nat) (x1 x2 : Int) (m : jM) (Q : Int → jM → Prop)
    (h : jK d zX11_in [jL x2, jL 0, jL 7] m (fun v1 m1 => (v1 = 0 → Q (-2) m1) ∧ (¬ v1 = 0 → jK d zX11_costs [jO 11 103] m1 (fun v2 m2 => jK d zX11_least [jO 11 103] m2 (fun v3 m3 => (v3 = 1125899906842624 → Q (-3) m3) ∧ (¬ v3 = 1125899906842624 → ((0 : Int) ≤ 0 ∧ (0 : Int) < 2304) ∧ jK d zX11_in [jL x1, jL 0, jL (w32 ((m3 130 0) - 1))] m3 (fun v4 m4 => (v4 = 0 → Q (-3) m4) ∧ (¬ v4 = 0 → jK d zX11_picks [jO 11 103, jI x1] m4 (fun v5 m5 => ((0 : Int) ≤ x2 ∧ (x2 : Int) < 8) ∧ Q (m5 131 x2) m5))))))))) :
    jK (d + 1) zX11_best [jO 11 103, jI x1, jI x2] m Q := jWp_sn0 [] jcX11_best 33 rfl h
def aX11_with_24 (d : Nat) (x1 x2 x3 : Int) (m : jM) (Q : Int → jM → Prop) : Prop := jA (d + 1) zX11_with 24 [some (jO 11 103), some (jI x1), some (jI x2), some (jI x3), none, none] [] m Q
def aX11_with_80 (d : Nat) (x2 x3 x5 : Int) (m : jM) (Q : Int → jM → Prop) : Prop := jA (d + 1) zX11_with 80 [some (jO 11 103), none, some (jI x2), some (jL x3), none, some (jI x5)] [] m Q
set_option maxRecDepth 100000 in
theorem gX11_with (d : Nat) (x1 x2 : Int) (m : jM) (Q : Int → jM → Prop)
    (h : ((0 : Int) ≤ (w32 ((w32 (8 * x1)) + x2)) ∧ ((w32 ((w32 (8 * x1)) + x2)) : Int) < 64) ∧ ((m 128 (w32 ((w32 (8 * x1)) + x2))) = (-1) → Q 1125899906842624 m) ∧ (¬ (m 128 (w32 ((w32 (8 * x1)) + x2))) = (-1) → aX11_with_24 d x1 x2 0 m Q)) :
    jK (d + 1) zX11_with [jO 11 103, jI x1, jI x2] m Q := jWp_sn0 [(24, [true, true, true, true, false, false]), (80, [true, false, true, true, false, true])] jcX11_with 13 rfl h
set_option maxRecDepth 100000 in
theorem gX11_with_24 (d : Nat) (x1 x2 x3 : Int) (m : jM) (Q : Int → jM → Prop)
    (h : (x3 < 8 → ((0 : Int) ≤ (w32 ((w32 (8 * x3)) + x2)) ∧ ((w32 ((w32 (8 * x3)) + x2)) : Int) < 64) ∧ ((0 : Int) ≤ x3 ∧ (x3 : Int) < 8) ∧ (x3 = x1 → aX11_with_24 d x1 x2 (w32 (x3 + 1)) (jUp m 132 x3 (m 128 (w32 ((w32 (8 * x3)) + x2)))) Q) ∧ (¬ x3 = x1 → ((0 : Int) ≤ (w32 ((w32 (8 * x3)) + x2)) ∧ ((w32 ((w32 (8 * x3)) + x2)) : Int) < 64) ∧ aX11_with_24 d x1 x2 (w32 (x3 + 1)) (jUp (jUp m 132 x3 (m 128 (w32 ((w32 (8 * x3)) + x2)))) 128 (w32 ((w32 (8 * x3)) + x2)) (-1)) Q)) ∧ (¬ x3 < 8 → jK d zX11_least [jO 11 103] m (fun v1 m1 => aX11_with_80 d x2 v1 0 m1 Q))) :
    aX11_with_24 d x1 x2 x3 m Q := jWp_snd [(24, [true, true, true, true, false, false]), (80, [true, false, true, true, false, true])] jcX11_with 30 rfl h
set_option maxRecDepth 100000 in
theorem gX11_with_80 (d : Nat) (x2 x3 x5 : Int) (m : jM) (Q : Int → jM → Prop)
    (h : (x5 < 8 → ((0 : Int) ≤ x5 ∧ (x5 : Int) < 8) ∧ ((0 : Int) ≤ (w32 ((w32 (8 * x5)) + x2)) ∧ ((w32 ((w32 (8 * x5)) + x2)) : Int) < 64) ∧ aX11_with_80 d x2 x3 (w32 (x5 + 1)) (jUp m 128 (w32 ((w32 (8 * x5)) + x2)) (m 132 x5)) Q) ∧ (¬ x5 < 8 → Q x3 m)) :
    aX11_with_80 d x2 x3 x5 m Q := jWp_snd [(24, [true, true, true, true, false, false]), (80, [true, false, true, true, false, true])] jcX11_with 18 rfl h
set_option maxRecDepth 100000 in
theorem gX11_lacking (d : Nat) (x1 x2 : Int) (m : jM) (Q : Int → jM → Prop)
    (h : ((0 : Int) ≤ (w32 ((w32 (8 * x1)) + x2)) ∧ ((w32 ((w32 (8 * x1)) + x2)) : Int) < 64) ∧ ((0 : Int) ≤ (w32 ((w32 (8 * x1)) + x2)) ∧ ((w32 ((w32 (8 * x1)) + x2)) : Int) < 64) ∧ jK d zX11_least [jO 11 103] (jUp m 128 (w32 ((w32 (8 * x1)) + x2)) (-1)) (fun v1 m1 => ((0 : Int) ≤ (w32 ((w32 (8 * x1)) + x2)) ∧ ((w32 ((w32 (8 * x1)) + x2)) : Int) < 64) ∧ Q v1 (jUp m1 128 (w32 ((w32 (8 * x1)) + x2)) (m 128 (w32 ((w32 (8 * x1)) + x2)))))) :
    jK (d + 1) zX11_lacking [jO 11 103, jI x1, jI x2] m Q := jWp_sn0 [] jcX11_lacking 33 rfl h
set_option maxRecDepth 100000 in
theorem gX11_kind (d : Nat) (x1 x2 : Int) (m : jM) (Q : Int → jM → Prop)
    (h : jK d zX11_isPair [jI x1, jI x2] m (fun v1 m1 => (v1 = 0 → Q (-2) m1) ∧ (¬ v1 = 0 → jK d zX11_costs [jO 11 103] m1 (fun v2 m2 => jK d zX11_least [jO 11 103] m2 (fun v3 m3 => (v3 = 1125899906842624 → Q (-3) m3) ∧ (¬ v3 = 1125899906842624 → jK d zX11_with [jO 11 103, jI x1, jI x2] m3 (fun v4 m4 => (v4 = v3 → jK d zX11_lacking [jO 11 103, jI x1, jI x2] m4 (fun v5 m5 => (v5 = v3 → Q 1 m5) ∧ (¬ v5 = v3 → Q 2 m5))) ∧ (¬ v4 = v3 → Q 0 m4)))))))) :
    jK (d + 1) zX11_kind [jO 11 103, jI x1, jI x2] m Q := jWp_sn0 [] jcX11_kind 28 rfl h
set_option maxRecDepth 100000 in
theorem gX11_room (d : Nat) (x1 x2 x3 : Int) (m : jM) (Q : Int → jM → Prop)
    (h : jK d zX11_isPair [jI x1, jI x2] m (fun v1 m1 => (v1 = 0 → Q (-4611686018427387904) m1) ∧ (¬ v1 = 0 → jK d zX11_in [jL x3, jL 0, jL 1] m1 (fun v2 m2 => (v2 = 0 → Q (-4611686018427387904) m2) ∧ (¬ v2 = 0 → jK d zX11_costs [jO 11 103] m2 (fun v3 m3 => (x3 = 0 → jK d zX11_with [jO 11 103, jI x1, jI x2] m3 (fun v4 m4 => jK d zX11_toldOr [jL v4] m4 (fun v5 m5 => Q v5 m5))) ∧ (¬ x3 = 0 → jK d zX11_lacking [jO 11 103, jI x1, jI x2] m3 (fun v6 m6 => jK d zX11_toldOr [jL v6] m6 (fun v7 m7 => Q v7 m7))))))))) :
    jK (d + 1) zX11_room [jO 11 103, jI x1, jI x2, jI x3] m Q := jWp_sn0 [] jcX11_room 22 rfl h
def aX11_enters_5 (d : Nat) (x1 x3 : Int) (m : jM) (Q : Int → jM → Prop) : Prop := jA (d + 1) zX11_enters 5 [some (jO 11 103), some (jL x1), none, some (jI x3), none] [] m Q
def aX11_enters_39 (d : Nat) (x1 x3 x4 : Int) (m : jM) (Q : Int → jM → Prop) : Prop := jA (d + 1) zX11_enters 39 [some (jO 11 103), some (jL x1), none, some (jI x3), some (jI x4)] [] m Q
def aX11_enters_94 (d : Nat) (x3 x4 : Int) (m : jM) (Q : Int → jM → Prop) : Prop := jA (d + 1) zX11_enters 94 [some (jO 11 103), none, none, some (jI x3), some (jI x4)] [] m Q
set_option maxRecDepth 100000 in
theorem gX11_enters (d : Nat) (x1 : Int) (m : jM) (Q : Int → jM → Prop)
    (h : aX11_enters_5 d x1 (m 103 48) m Q) :
    jK (d + 1) zX11_enters [jO 11 103, jL x1] m Q := jWp_sn0 [(5, [true, true, false, true, false]), (39, [true, true, false, true, true]), (94, [true, false, false, true, true])] jcX11_enters 4 rfl h
set_option maxRecDepth 100000 in
theorem gX11_enters_5 (d : Nat) (x1 x3 : Int) (m : jM) (Q : Int → jM → Prop)
    (h : (0 < x3 → ((0 : Int) ≤ (w32 (x3 - 1)) ∧ ((w32 (x3 - 1)) : Int) < 13) ∧ (x1 < (m 133 (w32 (x3 - 1))) → ((0 : Int) ≤ (w32 (x3 - 1)) ∧ ((w32 (x3 - 1)) : Int) < 13) ∧ ((0 : Int) ≤ x3 ∧ (x3 : Int) < 13) ∧ aX11_enters_39 d x1 x3 0 (jUp m 133 x3 (m 133 (w32 (x3 - 1)))) Q) ∧ (¬ x1 < (m 133 (w32 (x3 - 1))) → ((0 : Int) ≤ x3 ∧ (x3 : Int) < 13) ∧ aX11_enters_94 d x3 0 (jUp m 133 x3 x1) Q)) ∧ (¬ 0 < x3 → ((0 : Int) ≤ x3 ∧ (x3 : Int) < 13) ∧ aX11_enters_94 d x3 0 (jUp m 133 x3 x1) Q)) :
    aX11_enters_5 d x1 x3 m Q := jWp_snd [(5, [true, true, false, true, false]), (39, [true, true, false, true, true]), (94, [true, false, false, true, true])] jcX11_enters 23 rfl h
set_option maxRecDepth 100000 in
theorem gX11_enters_39 (d : Nat) (x1 x3 x4 : Int) (m : jM) (Q : Int → jM → Prop)
    (h : (x4 < 8 → ((0 : Int) ≤ (w32 ((w32 (8 * (w32 (x3 - 1)))) + x4)) ∧ ((w32 ((w32 (8 * (w32 (x3 - 1)))) + x4)) : Int) < 104) ∧ ((0 : Int) ≤ (w32 ((w32 (8 * x3)) + x4)) ∧ ((w32 ((w32 (8 * x3)) + x4)) : Int) < 104) ∧ aX11_enters_39 d x1 x3 (w32 (x4 + 1)) (jUp m 134 (w32 ((w32 (8 * x3)) + x4)) (m 134 (w32 ((w32 (8 * (w32 (x3 - 1)))) + x4)))) Q) ∧ (¬ x4 < 8 → aX11_enters_5 d x1 (w32 (x3 + (-1))) m Q)) :
    aX11_enters_39 d x1 x3 x4 m Q := jWp_snd [(5, [true, true, false, true, false]), (39, [true, true, false, true, true]), (94, [true, false, false, true, true])] jcX11_enters 24 rfl h
set_option maxRecDepth 100000 in
theorem gX11_enters_94 (d : Nat) (x3 x4 : Int) (m : jM) (Q : Int → jM → Prop)
    (h : (x4 < 8 → ((0 : Int) ≤ x4 ∧ (x4 : Int) < 8) ∧ ((0 : Int) ≤ (w32 ((w32 (8 * x3)) + x4)) ∧ ((w32 ((w32 (8 * x3)) + x4)) : Int) < 104) ∧ aX11_enters_94 d x3 (w32 (x4 + 1)) (jUp m 134 (w32 ((w32 (8 * x3)) + x4)) (m 131 x4)) Q) ∧ (¬ x4 < 8 → ((m 103 48) < 12 → Q 0 (jUp m 103 48 (w32 ((m 103 48) + 1)))) ∧ (¬ (m 103 48) < 12 → Q 0 m))) :
    aX11_enters_94 d x3 x4 m Q := jWp_snd [(5, [true, true, false, true, false]), (39, [true, true, false, true, true]), (94, [true, false, false, true, true])] jcX11_enters 18 rfl h
def aX11_walks_40 (d : Nat) (x1 x2 x3 x5 : Int) (m : jM) (Q : Int → jM → Prop) : Prop := jA (d + 1) zX11_walks 40 [some (jO 11 103), some (jI x1), some (jI x2), some (jL x3), none, some (jI x5), none, none, none, none] [] m Q
def aX11_walks_153 (d : Nat) (x1 x2 x3 x5 x8 : Int) (m : jM) (Q : Int → jM → Prop) : Prop := jA (d + 1) zX11_walks 153 [some (jO 11 103), some (jI x1), some (jI x2), some (jL x3), none, some (jI x5), none, none, some (jL x8), none] [] m Q
set_option maxRecDepth 100000 in
theorem gX11_walks (d : Nat) (x1 x2 x3 : Int) (m : jM) (Q : Int → jM → Prop)
    (h : (x1 = 8 → jK d zX11_enters [jO 11 103, jL x3] m (fun v1 m1 => Q 0 m1)) ∧ (¬ x1 = 8 → ((0 : Int) ≤ x1 ∧ (x1 : Int) < 8) ∧ jK d zX11_isCase [jO 11 103, jI x1] (jUp m 131 x1 (-1)) (fun v2 m2 => (v2 = 0 → jK d zX11_walks [jO 11 103, jI (w32 (x1 + 1)), jI x2, jL x3] m2 (fun v3 m3 => Q 0 m3)) ∧ (¬ v2 = 0 → aX11_walks_40 d x1 x2 x3 0 m2 Q)))) :
    jK (d + 1) zX11_walks [jO 11 103, jI x1, jI x2, jL x3] m Q := jWp_sn0 [(40, [true, true, true, true, false, true, false, false, false, false]), (153, [true, true, true, true, false, true, false, false, true, false])] jcX11_walks 21 rfl h
set_option maxRecDepth 100000 in
theorem gX11_walks_40 (d : Nat) (x1 x2 x3 x5 : Int) (m : jM) (Q : Int → jM → Prop)
    (h : (x5 < 8 → ((iAnd (iShr x2 x5) 1) = 1 → aX11_walks_40 d x1 x2 x3 (w32 (x5 + 1)) m Q) ∧ (¬ (iAnd (iShr x2 x5) 1) = 1 → ((0 : Int) ≤ (w32 ((w32 (8 * x5)) + x1)) ∧ ((w32 ((w32 (8 * x5)) + x1)) : Int) < 64) ∧ ((m 128 (w32 ((w32 (8 * x5)) + x1))) = (-1) → aX11_walks_40 d x1 x2 x3 (w32 (x5 + 1)) m Q) ∧ (¬ (m 128 (w32 ((w32 (8 * x5)) + x1))) = (-1) → ((0 : Int) ≤ (w32 ((w32 ((w32 (x1 + 1)) * 256)) + (iOr x2 (iShl 1 x5)))) ∧ ((w32 ((w32 ((w32 (x1 + 1)) * 256)) + (iOr x2 (iShl 1 x5)))) : Int) < 2304) ∧ ((0 : Int) ≤ (w32 ((w32 (8 * x5)) + x1)) ∧ ((w32 ((w32 (8 * x5)) + x1)) : Int) < 64) ∧ ((m 129 (w32 ((w32 ((w32 (x1 + 1)) * 256)) + (iOr x2 (iShl 1 x5))))) = 1125899906842624 → aX11_walks_40 d x1 x2 x3 (w32 (x5 + 1)) m Q) ∧ (¬ (m 129 (w32 ((w32 ((w32 (x1 + 1)) * 256)) + (iOr x2 (iShl 1 x5))))) = 1125899906842624 → ((m 103 48) = 12 → ((0 : Int) ≤ 11 ∧ (11 : Int) < 13) ∧ ((w64 ((w64 (x3 + (m 128 (w32 ((w32 (8 * x5)) + x1))))) + (m 129 (w32 ((w32 ((w32 (x1 + 1)) * 256)) + (iOr x2 (iShl 1 x5))))))) < (m 133 11) → aX11_walks_153 d x1 x2 x3 x5 (w64 (x3 + (m 128 (w32 ((w32 (8 * x5)) + x1))))) m Q) ∧ (¬ (w64 ((w64 (x3 + (m 128 (w32 ((w32 (8 * x5)) + x1))))) + (m 129 (w32 ((w32 ((w32 (x1 + 1)) * 256)) + (iOr x2 (iShl 1 x5))))))) < (m 133 11) → aX11_walks_40 d x1 x2 x3 (w32 (x5 + 1)) m Q)) ∧ (¬ (m 103 48) = 12 → aX11_walks_153 d x1 x2 x3 x5 (w64 (x3 + (m 128 (w32 ((w32 (8 * x5)) + x1))))) m Q))))) ∧ (¬ x5 < 8 → Q 0 m)) :
    aX11_walks_40 d x1 x2 x3 x5 m Q := jWp_snd [(40, [true, true, true, true, false, true, false, false, false, false]), (153, [true, true, true, true, false, true, false, false, true, false])] jcX11_walks 65 rfl h
set_option maxRecDepth 100000 in
theorem gX11_walks_153 (d : Nat) (x1 x2 x3 x5 x8 : Int) (m : jM) (Q : Int → jM → Prop)
    (h : ((0 : Int) ≤ x1 ∧ (x1 : Int) < 8) ∧ jK d zX11_walks [jO 11 103, jI (w32 (x1 + 1)), jI (iOr x2 (iShl 1 x5)), jL x8] (jUp m 131 x1 x5) (fun v1 m1 => aX11_walks_40 d x1 x2 x3 (w32 (x5 + 1)) m1 Q)) :
    aX11_walks_153 d x1 x2 x3 x5 x8 m Q := jWp_snd [(40, [true, true, true, true, false, true, false, false, false, false]), (153, [true, true, true, true, false, true, false, false, true, false])] jcX11_walks 19 rfl h
set_option maxRecDepth 100000 in
theorem gX11_lists (d : Nat) (m : jM) (Q : Int → jM → Prop)
    (h : jK d zX11_least [jO 11 103] (jUp m 103 48 0) (fun v1 m1 => (v1 = 1125899906842624 → Q 0 m1) ∧ (¬ v1 = 1125899906842624 → jK d zX11_walks [jO 11 103, jI 0, jI 0, jL 0] m1 (fun v2 m2 => Q 0 m2)))) :
    jK (d + 1) zX11_lists [jO 11 103] m Q := jWp_sn0 [] jcX11_lists 14 rfl h
set_option maxRecDepth 100000 in
theorem gX11_next_ (d : Nat) (x1 x2 : Int) (m : jM) (Q : Int → jM → Prop)
    (h : jK d zX11_in [jL x1, jL 0, jL 11] m (fun v1 m1 => (v1 = 0 → Q (-4611686018427387904) m1) ∧ (¬ v1 = 0 → jK d zX11_in [jL x2, jL (-1), jL 7] m1 (fun v2 m2 => (v2 = 0 → Q (-4611686018427387904) m2) ∧ (¬ v2 = 0 → jK d zX11_costs [jO 11 103] m2 (fun v3 m3 => jK d zX11_lists [jO 11 103] m3 (fun v4 m4 => (x1 < (m4 103 48) → (x2 = (-1) → ((0 : Int) ≤ x1 ∧ (x1 : Int) < 13) ∧ Q (m4 133 x1) m4) ∧ (¬ x2 = (-1) → ((0 : Int) ≤ (w32 ((w32 (8 * x1)) + x2)) ∧ ((w32 ((w32 (8 * x1)) + x2)) : Int) < 104) ∧ Q (m4 134 (w32 ((w32 (8 * x1)) + x2))) m4)) ∧ (¬ x1 < (m4 103 48) → Q (-4611686018427387904) m4)))))))) :
    jK (d + 1) zX11_next_ [jO 11 103, jI x1, jI x2] m Q := jWp_sn0 [] jcX11_next_ 34 rfl h
def aX11_heaviest_2 (d : Nat) (x1 : Int) (m : jM) (Q : Int → jM → Prop) : Prop := jA (d + 1) zX11_heaviest 2 [some (jO 11 103), some (jI x1), none, none, none, none] [] m Q
def aX11_heaviest_29 (d : Nat) (x1 : Int) (m : jM) (Q : Int → jM → Prop) : Prop := jA (d + 1) zX11_heaviest 29 [some (jO 11 103), some (jI x1), none, none, none, none] [] m Q
def aX11_heaviest_35 (d : Nat) (x1 x2 : Int) (m : jM) (Q : Int → jM → Prop) : Prop := jA (d + 1) zX11_heaviest 35 [some (jO 11 103), some (jI x1), some (jI x2), none, none, none] [] m Q
def aX11_heaviest_74 (d : Nat) (x1 x2 x3 x5 : Int) (m : jM) (Q : Int → jM → Prop) : Prop := jA (d + 1) zX11_heaviest 74 [some (jO 11 103), some (jI x1), some (jI x2), some (jL x3), none, some (jI x5)] [] m Q
set_option maxRecDepth 100000 in
theorem gX11_heaviest (d : Nat) (m : jM) (Q : Int → jM → Prop)
    (h : aX11_heaviest_2 d 0 m Q) :
    jK (d + 1) zX11_heaviest [jO 11 103] m Q := jWp_sn0 [(2, [true, true, false, false, false, false]), (29, [true, true, false, false, false, false]), (35, [true, true, true, false, false, false]), (74, [true, true, true, true, false, true])] jcX11_heaviest 3 rfl h
set_option maxRecDepth 100000 in
theorem gX11_heaviest_2 (d : Nat) (x1 : Int) (m : jM) (Q : Int → jM → Prop)
    (h : (x1 < 256 → ((0 : Int) ≤ (w32 (2048 + x1)) ∧ ((w32 (2048 + x1)) : Int) < 2304) ∧ aX11_heaviest_2 d (w32 (x1 + 1)) (jUp m 135 (w32 (2048 + x1)) 0) Q) ∧ (¬ x1 < 256 → aX11_heaviest_29 d 7 m Q)) :
    aX11_heaviest_2 d x1 m Q := jWp_snd [(2, [true, true, false, false, false, false]), (29, [true, true, false, false, false, false]), (35, [true, true, true, false, false, false]), (74, [true, true, true, true, false, true])] jcX11_heaviest 13 rfl h
set_option maxRecDepth 100000 in
theorem gX11_heaviest_29 (d : Nat) (x1 : Int) (m : jM) (Q : Int → jM → Prop)
    (h : (x1 < 0 → ((0 : Int) ≤ 0 ∧ (0 : Int) < 2304) ∧ Q (m 135 0) m) ∧ (¬ x1 < 0 → aX11_heaviest_35 d x1 0 m Q)) :
    aX11_heaviest_29 d x1 m Q := jWp_snd [(2, [true, true, false, false, false, false]), (29, [true, true, false, false, false, false]), (35, [true, true, true, false, false, false]), (74, [true, true, true, true, false, true])] jcX11_heaviest 8 rfl h
set_option maxRecDepth 100000 in
theorem gX11_heaviest_35 (d : Nat) (x1 x2 : Int) (m : jM) (Q : Int → jM → Prop)
    (h : (x2 < 256 → jK d zX11_isCase [jO 11 103, jI x1] m (fun v1 m1 => (v1 = 0 → ((0 : Int) ≤ (w32 ((w32 ((w32 (x1 + 1)) * 256)) + x2)) ∧ ((w32 ((w32 ((w32 (x1 + 1)) * 256)) + x2)) : Int) < 2304) ∧ aX11_heaviest_74 d x1 x2 (m1 135 (w32 ((w32 ((w32 (x1 + 1)) * 256)) + x2))) 0 m1 Q) ∧ (¬ v1 = 0 → aX11_heaviest_74 d x1 x2 1125899906842624 0 m1 Q))) ∧ (¬ x2 < 256 → aX11_heaviest_29 d (w32 (x1 + (-1))) m Q)) :
    aX11_heaviest_35 d x1 x2 m Q := jWp_snd [(2, [true, true, false, false, false, false]), (29, [true, true, false, false, false, false]), (35, [true, true, true, false, false, false]), (74, [true, true, true, true, false, true])] jcX11_heaviest 21 rfl h
set_option maxRecDepth 100000 in
theorem gX11_heaviest_74 (d : Nat) (x1 x2 x3 x5 : Int) (m : jM) (Q : Int → jM → Prop)
    (h : (x5 < 8 → jK d zX11_isCase [jO 11 103, jI x1] m (fun v1 m1 => (v1 = 0 → ((0 : Int) ≤ (w32 ((w32 (x1 * 256)) + x2)) ∧ ((w32 ((w32 (x1 * 256)) + x2)) : Int) < 2304) ∧ aX11_heaviest_35 d x1 (w32 (x2 + 1)) (jUp m1 135 (w32 ((w32 (x1 * 256)) + x2)) x3) Q) ∧ (¬ v1 = 0 → ((iAnd (iShr x2 x5) 1) = 1 → aX11_heaviest_74 d x1 x2 x3 (w32 (x5 + 1)) m1 Q) ∧ (¬ (iAnd (iShr x2 x5) 1) = 1 → ((0 : Int) ≤ (w32 ((w32 (8 * x5)) + x1)) ∧ ((w32 ((w32 (8 * x5)) + x1)) : Int) < 64) ∧ ((m1 128 (w32 ((w32 (8 * x5)) + x1))) = (-1) → aX11_heaviest_74 d x1 x2 x3 (w32 (x5 + 1)) m1 Q) ∧ (¬ (m1 128 (w32 ((w32 (8 * x5)) + x1))) = (-1) → ((0 : Int) ≤ (w32 ((w32 (8 * x5)) + x1)) ∧ ((w32 ((w32 (8 * x5)) + x1)) : Int) < 64) ∧ ((0 : Int) ≤ (w32 ((w32 ((w32 (x1 + 1)) * 256)) + (iOr x2 (iShl 1 x5)))) ∧ ((w32 ((w32 ((w32 (x1 + 1)) * 256)) + (iOr x2 (iShl 1 x5)))) : Int) < 2304) ∧ jK d zJ9_max_f86c9 [jL (m1 128 (w32 ((w32 (8 * x5)) + x1))), jL (m1 135 (w32 ((w32 ((w32 (x1 + 1)) * 256)) + (iOr x2 (iShl 1 x5)))))] m1 (fun v2 m2 => jK d zJ9_min_f86c9 [jL x3, jL v2] m2 (fun v3 m3 => aX11_heaviest_74 d x1 x2 v3 (w32 (x5 + 1)) m3 Q))))))) ∧ (¬ x5 < 8 → ((0 : Int) ≤ (w32 ((w32 (x1 * 256)) + x2)) ∧ ((w32 ((w32 (x1 * 256)) + x2)) : Int) < 2304) ∧ aX11_heaviest_35 d x1 (w32 (x2 + 1)) (jUp m 135 (w32 ((w32 (x1 * 256)) + x2)) x3) Q)) :
    aX11_heaviest_74 d x1 x2 x3 x5 m Q := jWp_snd [(2, [true, true, false, false, false, false]), (29, [true, true, false, false, false, false]), (35, [true, true, true, false, false, false]), (74, [true, true, true, true, false, true])] jcX11_heaviest 53 rfl h
def aX11_fair_49 (d : Nat) (x1 x2 x4 x5 : Int) (m : jM) (Q : Int → jM → Prop) : Prop := jA (d + 1) zX11_fair 49 [some (jO 11 103), some (jI x1), some (jL x2), none, some (jI x4), some (jI x5)] [] m Q
set_option maxRecDepth 100000 in
theorem gX11_fair (d : Nat) (x1 : Int) (m : jM) (Q : Int → jM → Prop)
    (h : jK d zX11_in [jL x1, jL 0, jL 2] m (fun v1 m1 => (v1 = 0 → Q (-4611686018427387904) m1) ∧ (¬ v1 = 0 → jK d zX11_costs [jO 11 103] m1 (fun v2 m2 => jK d zX11_heaviest [jO 11 103] m2 (fun v3 m3 => (v3 = 1125899906842624 → Q (-4611686018427387904) m3) ∧ (¬ v3 = 1125899906842624 → (x1 = 0 → Q v3 m3) ∧ (¬ x1 = 0 → aX11_fair_49 d x1 v3 0 0 m3 Q))))))) :
    jK (d + 1) zX11_fair [jO 11 103, jI x1] m Q := jWp_sn0 [(49, [true, true, true, false, true, true])] jcX11_fair 21 rfl h
set_option maxRecDepth 100000 in
theorem gX11_fair_49 (d : Nat) (x1 x2 x4 x5 : Int) (m : jM) (Q : Int → jM → Prop)
    (h : (x5 < 64 → ((0 : Int) ≤ x5 ∧ (x5 : Int) < 64) ∧ ((m 128 x5) = (-1) → aX11_fair_49 d x1 x2 x4 (w32 (x5 + 1)) m Q) ∧ (¬ (m 128 x5) = (-1) → ((0 : Int) ≤ x5 ∧ (x5 : Int) < 64) ∧ (x2 < (m 128 x5) → ((0 : Int) ≤ x5 ∧ (x5 : Int) < 64) ∧ aX11_fair_49 d x1 x2 (w32 (x4 + 1)) (w32 (x5 + 1)) (jUp m 128 x5 (-1)) Q) ∧ (¬ x2 < (m 128 x5) → aX11_fair_49 d x1 x2 x4 (w32 (x5 + 1)) m Q))) ∧ (¬ x5 < 64 → (x1 = 2 → Q x4 m) ∧ (¬ x1 = 2 → jK d zX11_least [jO 11 103] m (fun v1 m1 => Q v1 m1)))) :
    aX11_fair_49 d x1 x2 x4 x5 m Q := jWp_snd [(49, [true, true, true, false, true, true])] jcX11_fair 24 rfl h
def aX11_finds_2 (d : Nat) (x1 x2 : Int) (m : jM) (Q : Int → jM → Prop) : Prop := jA (d + 1) zX11_finds 2 [some (jO 11 103), some (jI x1), some (jI x2)] [] m Q
set_option maxRecDepth 100000 in
theorem gX11_finds (d : Nat) (x1 : Int) (m : jM) (Q : Int → jM → Prop)
    (h : aX11_finds_2 d x1 0 m Q) :
    jK (d + 1) zX11_finds [jO 11 103, jI x1] m Q := jWp_sn0 [(2, [true, true, true])] jcX11_finds 3 rfl h
set_option maxRecDepth 100000 in
theorem gX11_finds_2 (d : Nat) (x1 x2 : Int) (m : jM) (Q : Int → jM → Prop)
    (h : (x2 < 8 → ((0 : Int) ≤ x1 ∧ (x1 : Int) < 8) ∧ ((iAnd (iShr (m 144 x1) x2) 1) = 0 → aX11_finds_2 d x1 (w32 (x2 + 1)) m Q) ∧ (¬ (iAnd (iShr (m 144 x1) x2) 1) = 0 → ((iAnd (iShr (m 103 61) x2) 1) = 1 → aX11_finds_2 d x1 (w32 (x2 + 1)) m Q) ∧ (¬ (iAnd (iShr (m 103 61) x2) 1) = 1 → ((0 : Int) ≤ x2 ∧ (x2 : Int) < 8) ∧ (((jUp m 103 61 (iOr (m 103 61) (iShl 1 x2))) 145 x2) = (-1) → ((0 : Int) ≤ x2 ∧ (x2 : Int) < 8) ∧ Q 1 (jUp (jUp m 103 61 (iOr (m 103 61) (iShl 1 x2))) 145 x2 x1)) ∧ (¬ ((jUp m 103 61 (iOr (m 103 61) (iShl 1 x2))) 145 x2) = (-1) → ((0 : Int) ≤ x2 ∧ (x2 : Int) < 8) ∧ jK d zX11_finds [jO 11 103, jI ((jUp m 103 61 (iOr (m 103 61) (iShl 1 x2))) 145 x2)] (jUp m 103 61 (iOr (m 103 61) (iShl 1 x2))) (fun v1 m1 => (v1 = 0 → aX11_finds_2 d x1 (w32 (x2 + 1)) m1 Q) ∧ (¬ v1 = 0 → ((0 : Int) ≤ x2 ∧ (x2 : Int) < 8) ∧ Q 1 (jUp m1 145 x2 x1))))))) ∧ (¬ x2 < 8 → Q 0 m)) :
    aX11_finds_2 d x1 x2 m Q := jWp_snd [(2, [true, true, true])] jcX11_finds 49 rfl h
def aX11_greatest_2 (d : Nat) (x1 x2 : Int) (m : jM) (Q : Int → jM → Prop) : Prop := jA (d + 1) zX11_greatest 2 [some (jO 11 103), some (jI x1), some (jI x2), none] [] m Q
def aX11_greatest_25 (d : Nat) (x1 x2 x3 : Int) (m : jM) (Q : Int → jM → Prop) : Prop := jA (d + 1) zX11_greatest 25 [some (jO 11 103), some (jI x1), some (jI x2), some (jI x3)] [] m Q
set_option maxRecDepth 100000 in
theorem gX11_greatest (d : Nat) (x1 : Int) (m : jM) (Q : Int → jM → Prop)
    (h : aX11_greatest_2 d x1 0 m Q) :
    jK (d + 1) zX11_greatest [jO 11 103, jI x1] m Q := jWp_sn0 [(2, [true, true, true, false]), (25, [true, true, true, true])] jcX11_greatest 3 rfl h
set_option maxRecDepth 100000 in
theorem gX11_greatest_2 (d : Nat) (x1 x2 : Int) (m : jM) (Q : Int → jM → Prop)
    (h : (x2 < 8 → ((0 : Int) ≤ x2 ∧ (x2 : Int) < 8) ∧ aX11_greatest_2 d x1 (w32 (x2 + 1)) (jUp m 145 x2 (-1)) Q) ∧ (¬ x2 < 8 → aX11_greatest_25 d x1 0 0 m Q)) :
    aX11_greatest_2 d x1 x2 m Q := jWp_snd [(2, [true, true, true, false]), (25, [true, true, true, true])] jcX11_greatest 11 rfl h
set_option maxRecDepth 100000 in
theorem gX11_greatest_25 (d : Nat) (x1 x2 x3 : Int) (m : jM) (Q : Int → jM → Prop)
    (h : (x3 < 8 → (x3 = x1 → aX11_greatest_25 d x1 x2 (w32 (x3 + 1)) (jUp m 103 61 0) Q) ∧ (¬ x3 = x1 → jK d zX11_isCase [jO 11 103, jI x3] (jUp m 103 61 0) (fun v1 m1 => (v1 = 0 → aX11_greatest_25 d x1 x2 (w32 (x3 + 1)) m1 Q) ∧ (¬ v1 = 0 → jK d zX11_finds [jO 11 103, jI x3] m1 (fun v2 m2 => (v2 = 0 → aX11_greatest_25 d x1 x2 (w32 (x3 + 1)) m2 Q) ∧ (¬ v2 = 0 → aX11_greatest_25 d x1 (w32 (x2 + 1)) (w32 (x3 + 1)) m2 Q)))))) ∧ (¬ x3 < 8 → Q x2 m)) :
    aX11_greatest_25 d x1 x2 x3 m Q := jWp_snd [(2, [true, true, true, false]), (25, [true, true, true, true])] jcX11_greatest 21 rfl h
def aX11_marking_18 (d : Nat) (x1 x2 : Int) (m : jM) (Q : Int → jM → Prop) : Prop := jA (d + 1) zX11_marking 18 [some (jO 11 103), some (jI x1), some (jI x2)] [] m Q
set_option maxRecDepth 100000 in
theorem gX11_marking (d : Nat) (m : jM) (Q : Int → jM → Prop)
    (h : jK d zX11_greatest [jO 11 103, jI (-1)] m (fun v1 m1 => aX11_marking_18 d v1 0 (jUp (jUp m1 103 62 0) 103 63 0) Q)) :
    jK (d + 1) zX11_marking [jO 11 103] m Q := jWp_sn0 [(18, [true, true, true])] jcX11_marking 13 rfl h
set_option maxRecDepth 100000 in
theorem gX11_marking_18 (d : Nat) (x1 x2 : Int) (m : jM) (Q : Int → jM → Prop)
    (h : (x2 < 8 → jK d zX11_isCase [jO 11 103, jI x2] m (fun v1 m1 => (v1 = 0 → aX11_marking_18 d x1 (w32 (x2 + 1)) m1 Q) ∧ (¬ v1 = 0 → jK d zX11_greatest [jO 11 103, jI x2] m1 (fun v2 m2 => (v2 < x1 → aX11_marking_18 d x1 (w32 (x2 + 1)) m2 Q) ∧ (¬ v2 < x1 → ((0 : Int) ≤ x2 ∧ (x2 : Int) < 8) ∧ aX11_marking_18 d x1 (w32 (x2 + 1)) (jUp (jUp m2 103 62 (iOr (m2 103 62) (iShl 1 x2))) 103 63 (iOr ((jUp m2 103 62 (iOr (m2 103 62) (iShl 1 x2))) 103 63) ((jUp m2 103 62 (iOr (m2 103 62) (iShl 1 x2))) 144 x2))) Q))))) ∧ (¬ x2 < 8 → Q x1 m)) :
    aX11_marking_18 d x1 x2 m Q := jWp_snd [(18, [true, true, true])] jcX11_marking 32 rfl h
def aX11_casesIn_4 (d : Nat) (x1 x2 : Int) (m : jM) (Q : Int → jM → Prop) : Prop := jA (d + 1) zX11_casesIn 4 [some (jO 11 103), some (jI x1), some (jI x2)] [] m Q
set_option maxRecDepth 100000 in
theorem gX11_casesIn (d : Nat) (m : jM) (Q : Int → jM → Prop)
    (h : aX11_casesIn_4 d 0 0 m Q) :
    jK (d + 1) zX11_casesIn [jO 11 103] m Q := jWp_sn0 [(4, [true, true, true])] jcX11_casesIn 5 rfl h
set_option maxRecDepth 100000 in
theorem gX11_casesIn_4 (d : Nat) (x1 x2 : Int) (m : jM) (Q : Int → jM → Prop)
    (h : (x2 < 8 → jK d zX11_isCase [jO 11 103, jI x2] m (fun v1 m1 => (v1 = 0 → aX11_casesIn_4 d x1 (w32 (x2 + 1)) m1 Q) ∧ (¬ v1 = 0 → aX11_casesIn_4 d (iOr x1 (iShl 1 x2)) (w32 (x2 + 1)) m1 Q))) ∧ (¬ x2 < 8 → Q x1 m)) :
    aX11_casesIn_4 d x1 x2 m Q := jWp_snd [(4, [true, true, true])] jcX11_casesIn 16 rfl h
set_option maxRecDepth 100000 in
theorem gX11_slack (d : Nat) (x1 x2 : Int) (m : jM) (Q : Int → jM → Prop)
    (h : ((0 : Int) ≤ (w32 ((w32 (8 * x1)) + x2)) ∧ ((w32 ((w32 (8 * x1)) + x2)) : Int) < 64) ∧ ((0 : Int) ≤ x1 ∧ (x1 : Int) < 8) ∧ ((0 : Int) ≤ x2 ∧ (x2 : Int) < 8) ∧ Q (w64 ((w64 ((m 128 (w32 ((w32 (8 * x1)) + x2))) + (m 136 x1))) - (m 137 x2))) m) :
    jK (d + 1) zX11_slack [jO 11 103, jI x1, jI x2] m Q := jWp_sn0 [] jcX11_slack 20 rfl h
def aX11_rise_6 (d : Nat) (x1 x3 : Int) (m : jM) (Q : Int → jM → Prop) : Prop := jA (d + 1) zX11_rise 6 [some (jO 11 103), some (jL x1), none, some (jI x3), none, none] [] m Q
set_option maxRecDepth 100000 in
theorem gX11_rise (d : Nat) (m : jM) (Q : Int → jM → Prop)
    (h : aX11_rise_6 d (-1) 0 m Q) :
    jK (d + 1) zX11_rise [jO 11 103] m Q := jWp_sn0 [(6, [true, true, false, true, false, false])] jcX11_rise 5 rfl h
set_option maxRecDepth 100000 in
theorem gX11_rise_6 (d : Nat) (x1 x3 : Int) (m : jM) (Q : Int → jM → Prop)
    (h : (x3 < 64 → (8 : Int) ≠ 0 ∧ (8 : Int) ≠ 0 ∧ ((0 : Int) ≤ x3 ∧ (x3 : Int) < 64) ∧ ((m 128 x3) = (-1) → aX11_rise_6 d x1 (w32 (x3 + 1)) m Q) ∧ (¬ (m 128 x3) = (-1) → ((iAnd (iShr (m 103 62) (iRem x3 8)) 1) = 0 → aX11_rise_6 d x1 (w32 (x3 + 1)) m Q) ∧ (¬ (iAnd (iShr (m 103 62) (iRem x3 8)) 1) = 0 → ((iAnd (iShr (m 103 63) (iDiv x3 8)) 1) = 1 → aX11_rise_6 d x1 (w32 (x3 + 1)) m Q) ∧ (¬ (iAnd (iShr (m 103 63) (iDiv x3 8)) 1) = 1 → (x1 = (-1) → jK d zX11_slack [jO 11 103, jI (iDiv x3 8), jI (iRem x3 8)] m (fun v1 m1 => aX11_rise_6 d v1 (w32 (x3 + 1)) m1 Q)) ∧ (¬ x1 = (-1) → jK d zX11_slack [jO 11 103, jI (iDiv x3 8), jI (iRem x3 8)] m (fun v2 m2 => (v2 < x1 → jK d zX11_slack [jO 11 103, jI (iDiv x3 8), jI (iRem x3 8)] m2 (fun v3 m3 => aX11_rise_6 d v3 (w32 (x3 + 1)) m3 Q)) ∧ (¬ v2 < x1 → aX11_rise_6 d x1 (w32 (x3 + 1)) m2 Q))))))) ∧ (¬ x3 < 64 → Q x1 m)) :
    aX11_rise_6 d x1 x3 m Q := jWp_snd [(6, [true, true, false, true, false, false])] jcX11_rise 49 rfl h
def aX11_begins_11 (d : Nat) (x1 : Int) (m : jM) (Q : Int → jM → Prop) : Prop := jA (d + 1) zX11_begins 11 [some (jO 11 103), some (jI x1), none, none, none, none, none] [] m Q
def aX11_begins_31 (d : Nat) (x1 x2 x4 : Int) (m : jM) (Q : Int → jM → Prop) : Prop := jA (d + 1) zX11_begins 31 [some (jO 11 103), some (jI x1), some (jL x2), none, some (jI x4), none, none] [] m Q
set_option maxRecDepth 100000 in
theorem gX11_begins (d : Nat) (m : jM) (Q : Int → jM → Prop)
    (h : jK d zX11_costs [jO 11 103] m (fun v1 m1 => aX11_begins_11 d 0 (jUp m1 103 50 0) Q)) :
    jK (d + 1) zX11_begins [jO 11 103] m Q := jWp_sn0 [(11, [true, true, false, false, false, false, false]), (31, [true, true, true, false, true, false, false])] jcX11_begins 8 rfl h
set_option maxRecDepth 100000 in
theorem gX11_begins_11 (d : Nat) (x1 : Int) (m : jM) (Q : Int → jM → Prop)
    (h : (x1 < 8 → ((0 : Int) ≤ x1 ∧ (x1 : Int) < 8) ∧ aX11_begins_31 d x1 (-1) 0 (jUp m 136 x1 0) Q) ∧ (¬ x1 < 8 → jK d zX11_casesIn [jO 11 103] m (fun v1 m1 => Q 0 (jUp m1 103 64 v1)))) :
    aX11_begins_11 d x1 m Q := jWp_snd [(11, [true, true, false, false, false, false, false]), (31, [true, true, true, false, true, false, false])] jcX11_begins 13 rfl h
set_option maxRecDepth 100000 in
theorem gX11_begins_31 (d : Nat) (x1 x2 x4 : Int) (m : jM) (Q : Int → jM → Prop)
    (h : (x4 < 8 → ((0 : Int) ≤ (w32 ((w32 (8 * x4)) + x1)) ∧ ((w32 ((w32 (8 * x4)) + x1)) : Int) < 64) ∧ ((m 128 (w32 ((w32 (8 * x4)) + x1))) = (-1) → aX11_begins_31 d x1 x2 (w32 (x4 + 1)) m Q) ∧ (¬ (m 128 (w32 ((w32 (8 * x4)) + x1))) = (-1) → (x2 = (-1) → aX11_begins_31 d x1 (m 128 (w32 ((w32 (8 * x4)) + x1))) (w32 (x4 + 1)) m Q) ∧ (¬ x2 = (-1) → ((m 128 (w32 ((w32 (8 * x4)) + x1))) < x2 → aX11_begins_31 d x1 (m 128 (w32 ((w32 (8 * x4)) + x1))) (w32 (x4 + 1)) m Q) ∧ (¬ (m 128 (w32 ((w32 (8 * x4)) + x1))) < x2 → aX11_begins_31 d x1 x2 (w32 (x4 + 1)) m Q)))) ∧ (¬ x4 < 8 → (x2 = (-1) → ((0 : Int) ≤ x1 ∧ (x1 : Int) < 8) ∧ aX11_begins_11 d (w32 (x1 + 1)) (jUp m 137 x1 0) Q) ∧ (¬ x2 = (-1) → ((0 : Int) ≤ x1 ∧ (x1 : Int) < 8) ∧ aX11_begins_11 d (w32 (x1 + 1)) (jUp m 137 x1 x2) Q))) :
    aX11_begins_31 d x1 x2 x4 m Q := jWp_snd [(11, [true, true, false, false, false, false, false]), (31, [true, true, true, false, true, false, false])] jcX11_begins 26 rfl h
def aX11_isLast_4 (d : Nat) (x1 x2 : Int) (m : jM) (Q : Int → jM → Prop) : Prop := jA (d + 1) zX11_isLast 4 [some (jO 11 103), some (jI x1), some (jI x2), none, none, none] [] m Q
def aX11_isLast_19 (d : Nat) (x1 x2 x3 : Int) (m : jM) (Q : Int → jM → Prop) : Prop := jA (d + 1) zX11_isLast 19 [some (jO 11 103), some (jI x1), some (jI x2), some (jI x3), none, none] [] m Q
def aX11_isLast_148 (d : Nat) (x2 x3 : Int) (m : jM) (Q : Int → jM → Prop) : Prop := jA (d + 1) zX11_isLast 148 [some (jO 11 103), none, some (jI x2), some (jI x3), none, none] [] m Q
def aX11_isLast_231 (d : Nat) (x3 x5 : Int) (m : jM) (Q : Int → jM → Prop) : Prop := jA (d + 1) zX11_isLast 231 [some (jO 11 103), none, none, some (jL x3), none, some (jI x5)] [] m Q
def aX11_isLast_270 (d : Nat) (x3 x5 : Int) (m : jM) (Q : Int → jM → Prop) : Prop := jA (d + 1) zX11_isLast 270 [some (jO 11 103), none, none, some (jL x3), none, some (jI x5)] [] m Q
set_option maxRecDepth 100000 in
theorem gX11_isLast (d : Nat) (m : jM) (Q : Int → jM → Prop)
    (h : aX11_isLast_4 d 0 0 m Q) :
    jK (d + 1) zX11_isLast [jO 11 103] m Q := jWp_sn0 [(4, [true, true, true, false, false, false]), (19, [true, true, true, true, false, false]), (148, [true, false, true, true, false, false]), (231, [true, false, false, true, false, true]), (270, [true, false, false, true, false, true])] jcX11_isLast 5 rfl h
set_option maxRecDepth 100000 in
theorem gX11_isLast_4 (d : Nat) (x1 x2 : Int) (m : jM) (Q : Int → jM → Prop)
    (h : (x2 < 8 → ((0 : Int) ≤ x2 ∧ (x2 : Int) < 8) ∧ aX11_isLast_19 d x1 x2 0 (jUp m 144 x2 0) Q) ∧ (¬ x2 < 8 → jK d zX11_marking [jO 11 103] (jUp m 103 50 (w32 ((m 103 50) + 1))) (fun v1 m1 => ((0 : Int) ≤ (m 103 50) ∧ ((m 103 50) : Int) < 120) ∧ ((0 : Int) ≤ (m 103 50) ∧ ((m 103 50) : Int) < 120) ∧ ((0 : Int) ≤ (m 103 50) ∧ ((m 103 50) : Int) < 120) ∧ ((0 : Int) ≤ (m 103 50) ∧ ((m 103 50) : Int) < 120) ∧ ((0 : Int) ≤ (m 103 50) ∧ ((m 103 50) : Int) < 120) ∧ aX11_isLast_148 d (m 103 50) 0 (jUp (jUp (jUp (jUp (jUp m1 138 (m 103 50) v1) 139 (m 103 50) ((jUp m1 138 (m 103 50) v1) 103 62)) 140 (m 103 50) ((jUp (jUp m1 138 (m 103 50) v1) 139 (m 103 50) ((jUp m1 138 (m 103 50) v1) 103 62)) 103 63)) 141 (m 103 50) x1) 146 (m 103 50) ((jUp (jUp (jUp (jUp m1 138 (m 103 50) v1) 139 (m 103 50) ((jUp m1 138 (m 103 50) v1) 103 62)) 140 (m 103 50) ((jUp (jUp m1 138 (m 103 50) v1) 139 (m 103 50) ((jUp m1 138 (m 103 50) v1) 103 62)) 103 63)) 141 (m 103 50) x1) 103 64)) Q))) :
    aX11_isLast_4 d x1 x2 m Q := jWp_snd [(4, [true, true, true, false, false, false]), (19, [true, true, true, true, false, false]), (148, [true, false, true, true, false, false]), (231, [true, false, false, true, false, true]), (270, [true, false, false, true, false, true])] jcX11_isLast 44 rfl h
set_option maxRecDepth 100000 in
theorem gX11_isLast_19 (d : Nat) (x1 x2 x3 : Int) (m : jM) (Q : Int → jM → Prop)
    (h : (x3 < 8 → ((0 : Int) ≤ (w32 ((w32 (8 * x3)) + x2)) ∧ ((w32 ((w32 (8 * x3)) + x2)) : Int) < 64) ∧ ((m 128 (w32 ((w32 (8 * x3)) + x2))) = (-1) → aX11_isLast_19 d x1 x2 (w32 (x3 + 1)) m Q) ∧ (¬ (m 128 (w32 ((w32 (8 * x3)) + x2))) = (-1) → jK d zX11_slack [jO 11 103, jI x3, jI x2] m (fun v1 m1 => (v1 = 0 → ((0 : Int) ≤ x2 ∧ (x2 : Int) < 8) ∧ ((0 : Int) ≤ x2 ∧ (x2 : Int) < 8) ∧ aX11_isLast_19 d (w32 (x1 + 1)) x2 (w32 (x3 + 1)) (jUp m1 144 x2 (iOr (m1 144 x2) (iShl 1 x3))) Q) ∧ (¬ v1 = 0 → aX11_isLast_19 d x1 x2 (w32 (x3 + 1)) m1 Q)))) ∧ (¬ x3 < 8 → aX11_isLast_4 d x1 (w32 (x2 + 1)) m Q)) :
    aX11_isLast_19 d x1 x2 x3 m Q := jWp_snd [(4, [true, true, true, false, false, false]), (19, [true, true, true, true, false, false]), (148, [true, false, true, true, false, false]), (231, [true, false, false, true, false, true]), (270, [true, false, false, true, false, true])] jcX11_isLast 33 rfl h
set_option maxRecDepth 100000 in
theorem gX11_isLast_148 (d : Nat) (x2 x3 : Int) (m : jM) (Q : Int → jM → Prop)
    (h : (x3 < 8 → ((0 : Int) ≤ x3 ∧ (x3 : Int) < 8) ∧ ((0 : Int) ≤ (w32 ((w32 ((w32 (2 * x2)) * 8)) + x3)) ∧ ((w32 ((w32 ((w32 (2 * x2)) * 8)) + x3)) : Int) < 1920) ∧ ((iAnd (iShr ((jUp m 143 (w32 ((w32 ((w32 (2 * x2)) * 8)) + x3)) (m 136 x3)) 103 64) x3) 1) = 1 → ((0 : Int) ≤ x3 ∧ (x3 : Int) < 8) ∧ ((0 : Int) ≤ (w32 ((w32 ((w32 ((w32 (2 * x2)) + 1)) * 8)) + x3)) ∧ ((w32 ((w32 ((w32 ((w32 (2 * x2)) + 1)) * 8)) + x3)) : Int) < 1920) ∧ aX11_isLast_148 d x2 (w32 (x3 + 1)) (jUp (jUp m 143 (w32 ((w32 ((w32 (2 * x2)) * 8)) + x3)) (m 136 x3)) 143 (w32 ((w32 ((w32 ((w32 (2 * x2)) + 1)) * 8)) + x3)) ((jUp m 143 (w32 ((w32 ((w32 (2 * x2)) * 8)) + x3)) (m 136 x3)) 137 x3)) Q) ∧ (¬ (iAnd (iShr ((jUp m 143 (w32 ((w32 ((w32 (2 * x2)) * 8)) + x3)) (m 136 x3)) 103 64) x3) 1) = 1 → ((0 : Int) ≤ (w32 ((w32 ((w32 ((w32 (2 * x2)) + 1)) * 8)) + x3)) ∧ ((w32 ((w32 ((w32 ((w32 (2 * x2)) + 1)) * 8)) + x3)) : Int) < 1920) ∧ aX11_isLast_148 d x2 (w32 (x3 + 1)) (jUp (jUp m 143 (w32 ((w32 ((w32 (2 * x2)) * 8)) + x3)) (m 136 x3)) 143 (w32 ((w32 ((w32 ((w32 (2 * x2)) + 1)) * 8)) + x3)) 0) Q)) ∧ (¬ x3 < 8 → jK d zX11_rise [jO 11 103] m (fun v1 m1 => ((0 : Int) ≤ x2 ∧ (x2 : Int) < 120) ∧ aX11_isLast_231 d v1 0 (jUp m1 142 x2 v1) Q))) :
    aX11_isLast_148 d x2 x3 m Q := jWp_snd [(4, [true, true, true, false, false, false]), (19, [true, true, true, true, false, false]), (148, [true, false, true, true, false, false]), (231, [true, false, false, true, false, true]), (270, [true, false, false, true, false, true])] jcX11_isLast 45 rfl h
set_option maxRecDepth 100000 in
theorem gX11_isLast_231 (d : Nat) (x3 x5 : Int) (m : jM) (Q : Int → jM → Prop)
    (h : (x5 < 8 → (x3 = (-1) → (x3 = (-1) → Q 1 m) ∧ (¬ x3 = (-1) → Q 0 m)) ∧ (¬ x3 = (-1) → ((iAnd (iShr (m 103 62) x5) 1) = 1 → ((0 : Int) ≤ x5 ∧ (x5 : Int) < 8) ∧ ((0 : Int) ≤ x5 ∧ (x5 : Int) < 8) ∧ aX11_isLast_270 d x3 x5 (jUp m 137 x5 (w64 ((m 137 x5) + x3))) Q) ∧ (¬ (iAnd (iShr (m 103 62) x5) 1) = 1 → aX11_isLast_270 d x3 x5 m Q))) ∧ (¬ x5 < 8 → (x3 = (-1) → Q 1 m) ∧ (¬ x3 = (-1) → Q 0 m))) :
    aX11_isLast_231 d x3 x5 m Q := jWp_snd [(4, [true, true, true, false, false, false]), (19, [true, true, true, true, false, false]), (148, [true, false, true, true, false, false]), (231, [true, false, false, true, false, true]), (270, [true, false, false, true, false, true])] jcX11_isLast 23 rfl h
set_option maxRecDepth 100000 in
theorem gX11_isLast_270 (d : Nat) (x3 x5 : Int) (m : jM) (Q : Int → jM → Prop)
    (h : ((iAnd (iShr (m 103 63) x5) 1) = 1 → ((0 : Int) ≤ x5 ∧ (x5 : Int) < 8) ∧ ((0 : Int) ≤ x5 ∧ (x5 : Int) < 8) ∧ aX11_isLast_231 d x3 (w32 (x5 + 1)) (jUp m 136 x5 (w64 ((m 136 x5) + x3))) Q) ∧ (¬ (iAnd (iShr (m 103 63) x5) 1) = 1 → aX11_isLast_231 d x3 (w32 (x5 + 1)) m Q)) :
    aX11_isLast_270 d x3 x5 m Q := jWp_snd [(4, [true, true, true, false, false, false]), (19, [true, true, true, true, false, false]), (148, [true, false, true, true, false, false]), (231, [true, false, false, true, false, true]), (270, [true, false, false, true, false, true])] jcX11_isLast 19 rfl h
def aX11_solve_6 (d : Nat) (x1 : Int) (m : jM) (Q : Int → jM → Prop) : Prop := jA (d + 1) zX11_solve 6 [some (jO 11 103), some (jI x1)] [] m Q
set_option maxRecDepth 100000 in
theorem gX11_solve (d : Nat) (m : jM) (Q : Int → jM → Prop)
    (h : jK d zX11_begins [jO 11 103] m (fun v1 m1 => aX11_solve_6 d 0 m1 Q)) :
    jK (d + 1) zX11_solve [jO 11 103] m Q := jWp_sn0 [(6, [true, true])] jcX11_solve 5 rfl h
set_option maxRecDepth 100000 in
theorem gX11_solve_6 (d : Nat) (x1 : Int) (m : jM) (Q : Int → jM → Prop)
    (h : (x1 = 0 → ((m 103 50) < 120 → jK d zX11_isLast [jO 11 103] m (fun v1 m1 => aX11_solve_6 d v1 m1 Q)) ∧ (¬ (m 103 50) < 120 → Q (m 103 50) m)) ∧ (¬ x1 = 0 → Q (m 103 50) m)) :
    aX11_solve_6 d x1 m Q := jWp_snd [(6, [true, true])] jcX11_solve 11 rfl h
set_option maxRecDepth 100000 in
theorem gX11_round (d : Nat) (x1 x2 : Int) (m : jM) (Q : Int → jM → Prop)
    (h : jK d zX11_in [jL x1, jL 0, jL (w32 ((m 103 50) - 1))] m (fun v1 m1 => (v1 = 0 → Q (-4611686018427387904) m1) ∧ (¬ v1 = 0 → jK d zX11_in [jL x2, jL 0, jL 5] m1 (fun v2 m2 => (v2 = 0 → Q (-4611686018427387904) m2) ∧ (¬ v2 = 0 → (x2 = 0 → ((0 : Int) ≤ x1 ∧ (x1 : Int) < 120) ∧ Q (m2 138 x1) m2) ∧ (¬ x2 = 0 → (x2 = 1 → ((0 : Int) ≤ x1 ∧ (x1 : Int) < 120) ∧ Q (m2 139 x1) m2) ∧ (¬ x2 = 1 → (x2 = 2 → ((0 : Int) ≤ x1 ∧ (x1 : Int) < 120) ∧ Q (m2 140 x1) m2) ∧ (¬ x2 = 2 → (x2 = 3 → ((0 : Int) ≤ x1 ∧ (x1 : Int) < 120) ∧ ((0 : Int) ≤ x1 ∧ (x1 : Int) < 120) ∧ ((0 : Int) ≤ x1 ∧ (x1 : Int) < 120) ∧ Q (iOr (m2 140 x1) (iShl (iAnd (m2 146 x1) (iXor (m2 139 x1) (-1))) 8)) m2) ∧ (¬ x2 = 3 → (x2 = 4 → ((0 : Int) ≤ x1 ∧ (x1 : Int) < 120) ∧ Q (m2 142 x1) m2) ∧ (¬ x2 = 4 → ((0 : Int) ≤ x1 ∧ (x1 : Int) < 120) ∧ Q (m2 141 x1) m2)))))))))) :
    jK (d + 1) zX11_round [jO 11 103, jI x1, jI x2] m Q := jWp_sn0 [] jcX11_round 48 rfl h
set_option maxRecDepth 100000 in
theorem gX11_price (d : Nat) (x1 x2 x3 : Int) (m : jM) (Q : Int → jM → Prop)
    (h : jK d zX11_in [jL x1, jL 0, jL (w32 ((m 103 50) - 1))] m (fun v1 m1 => (v1 = 0 → Q (-4611686018427387904) m1) ∧ (¬ v1 = 0 → jK d zX11_isWho [jI x2, jI x3] m1 (fun v2 m2 => (v2 = 0 → Q (-4611686018427387904) m2) ∧ (¬ v2 = 0 → ((0 : Int) ≤ (w32 ((w32 ((w32 ((w32 (2 * x1)) + x2)) * 8)) + x3)) ∧ ((w32 ((w32 ((w32 ((w32 (2 * x1)) + x2)) * 8)) + x3)) : Int) < 1920) ∧ Q (m2 143 (w32 ((w32 ((w32 ((w32 (2 * x1)) + x2)) * 8)) + x3))) m2))))) :
    jK (d + 1) zX11_price [jO 11 103, jI x1, jI x2, jI x3] m Q := jWp_sn0 [] jcX11_price 29 rfl h
def aX11_daysOf_6 (d : Nat) (x1 x2 : Int) (m : jM) (Q : Int → jM → Prop) : Prop := jA (d + 1) zX11_daysOf 6 [some (jO 11 103), some (jI x1), some (jI x2), none, none, none, none, none] [] m Q
def aX11_daysOf_35 (d : Nat) (x1 x2 x4 : Int) (m : jM) (Q : Int → jM → Prop) : Prop := jA (d + 1) zX11_daysOf 35 [some (jO 11 103), some (jI x1), some (jL x2), none, some (jI x4), none, none, none] [] m Q
def aX11_daysOf_81 (d : Nat) (x1 x2 x4 x7 : Int) (m : jM) (Q : Int → jM → Prop) : Prop := jA (d + 1) zX11_daysOf 81 [some (jO 11 103), some (jI x1), some (jL x2), none, some (jI x4), none, none, some (jI x7)] [] m Q
set_option maxRecDepth 100000 in
theorem gX11_daysOf (d : Nat) (x1 : Int) (m : jM) (Q : Int → jM → Prop)
    (h : jK d zX11_tellsBurdens [jO 11 103] m (fun v1 m1 => aX11_daysOf_6 d x1 0 m1 Q)) :
    jK (d + 1) zX11_daysOf [jO 11 103, jI x1] m Q := jWp_sn0 [(6, [true, true, true, false, false, false, false, false]), (35, [true, true, true, false, true, false, false, false]), (81, [true, true, true, false, true, false, false, true])] jcX11_daysOf 5 rfl h
set_option maxRecDepth 100000 in
theorem gX11_daysOf_6 (d : Nat) (x1 x2 : Int) (m : jM) (Q : Int → jM → Prop)
    (h : (x2 < 64 → ((0 : Int) ≤ x2 ∧ (x2 : Int) < 64) ∧ ((0 : Int) ≤ x2 ∧ (x2 : Int) < 64) ∧ aX11_daysOf_6 d x1 (w32 (x2 + 1)) (jUp m 147 x2 (m 107 x2)) Q) ∧ (¬ x2 < 64 → aX11_daysOf_35 d x1 0 0 m Q)) :
    aX11_daysOf_6 d x1 x2 m Q := jWp_snd [(6, [true, true, true, false, false, false, false, false]), (35, [true, true, true, false, true, false, false, false]), (81, [true, true, true, false, true, false, false, true])] jcX11_daysOf 14 rfl h
set_option maxRecDepth 100000 in
theorem gX11_daysOf_35 (d : Nat) (x1 x2 x4 : Int) (m : jM) (Q : Int → jM → Prop)
    (h : (x4 < x1 → jK d zX11_opens_ [jO 11 103, jY 0 64 147] m (fun v1 m1 => jK d zX11_least [jO 11 103] m1 (fun v2 m2 => (v2 = 1125899906842624 → Q 1125899906842624 m2) ∧ (¬ v2 = 1125899906842624 → jK d zX11_picks [jO 11 103, jI 0] m2 (fun v3 m3 => aX11_daysOf_81 d x1 (w64 (x2 + v2)) x4 0 m3 Q))))) ∧ (¬ x4 < x1 → Q x2 m)) :
    aX11_daysOf_35 d x1 x2 x4 m Q := jWp_snd [(6, [true, true, true, false, false, false, false, false]), (35, [true, true, true, false, true, false, false, false]), (81, [true, true, true, false, true, false, false, true])] jcX11_daysOf 23 rfl h
set_option maxRecDepth 100000 in
theorem gX11_daysOf_81 (d : Nat) (x1 x2 x4 x7 : Int) (m : jM) (Q : Int → jM → Prop)
    (h : (x7 < 8 → ((0 : Int) ≤ x7 ∧ (x7 : Int) < 8) ∧ ((m 131 x7) = (-1) → aX11_daysOf_81 d x1 x2 x4 (w32 (x7 + 1)) m Q) ∧ (¬ (m 131 x7) = (-1) → ((0 : Int) ≤ x7 ∧ (x7 : Int) < 8) ∧ ((0 : Int) ≤ (w32 ((w32 (8 * (m 131 x7))) + x7)) ∧ ((w32 ((w32 (8 * (m 131 x7))) + x7)) : Int) < 64) ∧ aX11_daysOf_81 d x1 x2 x4 (w32 (x7 + 1)) (jUp m 147 (w32 ((w32 (8 * (m 131 x7))) + x7)) 1) Q)) ∧ (¬ x7 < 8 → aX11_daysOf_35 d x1 x2 (w32 (x4 + 1)) m Q)) :
    aX11_daysOf_81 d x1 x2 x4 x7 m Q := jWp_snd [(6, [true, true, true, false, false, false, false, false]), (35, [true, true, true, false, true, false, false, false]), (81, [true, true, true, false, true, false, false, true])] jcX11_daysOf 24 rfl h
set_option maxRecDepth 100000 in
theorem gX11_days (d : Nat) (x1 : Int) (m : jM) (Q : Int → jM → Prop)
    (h : jK d zX11_in [jL x1, jL 1, jL 8] m (fun v1 m1 => (v1 = 0 → Q (-4611686018427387904) m1) ∧ (¬ v1 = 0 → jK d zX11_daysOf [jO 11 103, jI x1] m1 (fun v2 m2 => jK d zX11_toldOr [jL v2] m2 (fun v3 m3 => Q v3 m3))))) :
    jK (d + 1) zX11_days [jO 11 103, jI x1] m Q := jWp_sn0 [] jcX11_days 13 rfl h
set_option maxRecDepth 100000 in
theorem gX11_day (d : Nat) (x1 x2 : Int) (m : jM) (Q : Int → jM → Prop)
    (h : jK d zX11_in [jL x1, jL 0, jL 7] m (fun v1 m1 => (v1 = 0 → Q (-2) m1) ∧ (¬ v1 = 0 → jK d zX11_in [jL x2, jL 0, jL 7] m1 (fun v2 m2 => (v2 = 0 → Q (-2) m2) ∧ (¬ v2 = 0 → jK d zX11_daysOf [jO 11 103, jI (w32 (x1 + 1))] m2 (fun v3 m3 => (v3 = 1125899906842624 → Q (-3) m3) ∧ (¬ v3 = 1125899906842624 → ((0 : Int) ≤ x2 ∧ (x2 : Int) < 8) ∧ Q (m3 131 x2) m3))))))) :
    jK (d + 1) zX11_day [jO 11 103, jI x1, jI x2] m Q := jWp_sn0 [] jcX11_day 25 rfl h
def aX11_lack_21 (d : Nat) (x1 x2 : Int) (m : jM) (Q : Int → jM → Prop) : Prop := jA (d + 1) zX11_lack 21 [some (jO 11 103), some (jI x1), some (jI x2), none] [] m Q
def aX11_lack_36 (d : Nat) (x1 x2 x3 : Int) (m : jM) (Q : Int → jM → Prop) : Prop := jA (d + 1) zX11_lack 36 [some (jO 11 103), some (jI x1), some (jI x2), some (jI x3)] [] m Q
set_option maxRecDepth 100000 in
theorem gX11_lack (d : Nat) (x1 : Int) (m : jM) (Q : Int → jM → Prop)
    (h : jK d zX11_in [jL x1, jL 0, jL 2] m (fun v1 m1 => (v1 = 0 → Q (-2) m1) ∧ (¬ v1 = 0 → jK d zX11_costs [jO 11 103] m1 (fun v2 m2 => aX11_lack_21 d x1 0 m2 Q)))) :
    jK (d + 1) zX11_lack [jO 11 103, jI x1] m Q := jWp_sn0 [(21, [true, true, true, false]), (36, [true, true, true, true])] jcX11_lack 11 rfl h
set_option maxRecDepth 100000 in
theorem gX11_lack_21 (d : Nat) (x1 x2 : Int) (m : jM) (Q : Int → jM → Prop)
    (h : (x2 < 8 → ((0 : Int) ≤ x2 ∧ (x2 : Int) < 8) ∧ aX11_lack_36 d x1 x2 0 (jUp m 144 x2 0) Q) ∧ (¬ x2 < 8 → jK d zX11_marking [jO 11 103] m (fun v1 m1 => (x1 = 0 → jK d zX11_casesIn [jO 11 103] m1 (fun v2 m2 => jK d zJ6_bitCount_0f7a4 [jI v2] m2 (fun v3 m3 => Q (w32 (v3 - v1)) m3))) ∧ (¬ x1 = 0 → (x1 = 1 → Q (m1 103 62) m1) ∧ (¬ x1 = 1 → Q (m1 103 63) m1))))) :
    aX11_lack_21 d x1 x2 m Q := jWp_snd [(21, [true, true, true, false]), (36, [true, true, true, true])] jcX11_lack 16 rfl h
set_option maxRecDepth 100000 in
theorem gX11_lack_36 (d : Nat) (x1 x2 x3 : Int) (m : jM) (Q : Int → jM → Prop)
    (h : (x3 < 8 → ((0 : Int) ≤ (w32 ((w32 (8 * x3)) + x2)) ∧ ((w32 ((w32 (8 * x3)) + x2)) : Int) < 64) ∧ ((m 128 (w32 ((w32 (8 * x3)) + x2))) = (-1) → aX11_lack_36 d x1 x2 (w32 (x3 + 1)) m Q) ∧ (¬ (m 128 (w32 ((w32 (8 * x3)) + x2))) = (-1) → ((0 : Int) ≤ x2 ∧ (x2 : Int) < 8) ∧ ((0 : Int) ≤ x2 ∧ (x2 : Int) < 8) ∧ aX11_lack_36 d x1 x2 (w32 (x3 + 1)) (jUp m 144 x2 (iOr (m 144 x2) (iShl 1 x3))) Q)) ∧ (¬ x3 < 8 → aX11_lack_21 d x1 (w32 (x2 + 1)) m Q)) :
    aX11_lack_36 d x1 x2 x3 m Q := jWp_snd [(21, [true, true, true, false]), (36, [true, true, true, true])] jcX11_lack 26 rfl h
set_option maxRecDepth 100000 in
theorem gX11_without (d : Nat) (x1 x2 : Int) (m : jM) (Q : Int → jM → Prop)
    (h : jK d zX11_isWho [jI x1, jI x2] m (fun v1 m1 => (v1 = 0 → Q (-4611686018427387904) m1) ∧ (¬ v1 = 0 → ((0 : Int) ≤ (w32 ((w32 (8 * x1)) + x2)) ∧ ((w32 ((w32 (8 * x1)) + x2)) : Int) < 16) ∧ ((0 : Int) ≤ (w32 ((w32 (8 * x1)) + x2)) ∧ ((w32 ((w32 (8 * x1)) + x2)) : Int) < 16) ∧ jK d zX11_total [jO 11 103] (jUp m1 104 (w32 ((w32 (8 * x1)) + x2)) 0) (fun v2 m2 => ((0 : Int) ≤ (w32 ((w32 (8 * x1)) + x2)) ∧ ((w32 ((w32 (8 * x1)) + x2)) : Int) < 16) ∧ Q v2 (jUp m2 104 (w32 ((w32 (8 * x1)) + x2)) (m1 104 (w32 ((w32 (8 * x1)) + x2)))))))) :
    jK (d + 1) zX11_without [jO 11 103, jI x1, jI x2] m Q := jWp_sn0 [] jcX11_without 37 rfl h
set_option maxRecDepth 100000 in
theorem gX11_casesMany (d : Nat) (m : jM) (Q : Int → jM → Prop)
    (h : jK d zX11_casesIn [jO 11 103] m (fun v1 m1 => jK d zJ6_bitCount_0f7a4 [jI v1] m1 (fun v2 m2 => Q v2 m2))) :
    jK (d + 1) zX11_casesMany [jO 11 103] m Q := jWp_sn0 [] jcX11_casesMany 5 rfl h
def aX11_reads_22 (d : Nat) (x1 x2 x3 x4 : Int) (m : jM) (Q : Int → jM → Prop) : Prop := jA (d + 1) zX11_reads 22 [some (jO 11 103), some (jI x1), some (jI x2), some (jI x3), some (jI x4), none, none] [] m Q
set_option maxRecDepth 100000 in
theorem gX11_reads (d : Nat) (x1 : Int) (m : jM) (Q : Int → jM → Prop)
    (h : ((0 : Int) ≤ x1 ∧ (x1 : Int) < 4) ∧ jK d zX11_casesMany [jO 11 103] m (fun v1 m1 => ((m 158 x1) = v1 → aX11_reads_22 d x1 0 0 0 m1 Q) ∧ (¬ (m 158 x1) = v1 → Q 0 m1))) :
    jK (d + 1) zX11_reads [jO 11 103, jI x1] m Q := jWp_sn0 [(22, [true, true, true, true, true, false, false])] jcX11_reads 14 rfl h
set_option maxRecDepth 100000 in
theorem gX11_reads_22 (d : Nat) (x1 x2 x3 x4 : Int) (m : jM) (Q : Int → jM → Prop)
    (h : (x4 < 8 → ((0 : Int) ≤ x4 ∧ (x4 : Int) < 8) ∧ jK d zX11_isCase [jO 11 103, jI x4] (jUp m 131 x4 (-1)) (fun v1 m1 => (v1 = 0 → aX11_reads_22 d x1 x2 x3 (w32 (x4 + 1)) m1 Q) ∧ (¬ v1 = 0 → ((0 : Int) ≤ (w32 ((w32 (40 * x1)) + x2)) ∧ ((w32 ((w32 (40 * x1)) + x2)) : Int) < 160) ∧ jK d zX11_in [jL (m1 159 (w32 ((w32 (40 * x1)) + x2))), jL 0, jL 7] m1 (fun v2 m2 => (v2 = 0 → Q 0 m2) ∧ (¬ v2 = 0 → ((iAnd (iShr x3 (w32 (m1 159 (w32 ((w32 (40 * x1)) + x2))))) 1) = 1 → Q 0 m2) ∧ (¬ (iAnd (iShr x3 (w32 (m1 159 (w32 ((w32 (40 * x1)) + x2))))) 1) = 1 → ((0 : Int) ≤ (w32 ((w32 (8 * (w32 (m1 159 (w32 ((w32 (40 * x1)) + x2)))))) + x4)) ∧ ((w32 ((w32 (8 * (w32 (m1 159 (w32 ((w32 (40 * x1)) + x2)))))) + x4)) : Int) < 64) ∧ ((m2 128 (w32 ((w32 (8 * (w32 (m1 159 (w32 ((w32 (40 * x1)) + x2)))))) + x4))) = (-1) → Q 0 m2) ∧ (¬ (m2 128 (w32 ((w32 (8 * (w32 (m1 159 (w32 ((w32 (40 * x1)) + x2)))))) + x4))) = (-1) → ((0 : Int) ≤ x4 ∧ (x4 : Int) < 8) ∧ aX11_reads_22 d x1 (w32 (x2 + 1)) (iOr x3 (iShl 1 (w32 (m1 159 (w32 ((w32 (40 * x1)) + x2)))))) (w32 (x4 + 1)) (jUp m2 131 x4 (w32 (m1 159 (w32 ((w32 (40 * x1)) + x2))))) Q))))))) ∧ (¬ x4 < 8 → Q 1 m)) :
    aX11_reads_22 d x1 x2 x3 x4 m Q := jWp_snd [(22, [true, true, true, true, true, false, false])] jcX11_reads 62 rfl h
def aX11_tells_55 (d : Nat) (x2 x3 : Int) (m : jM) (Q : Int → jM → Prop) : Prop := jA (d + 1) zX11_tells 55 [some (jO 11 103), none, some (jI x2), some (jI x3), none, none, none] [] m Q
def aX11_tells_88 (d : Nat) (x3 x5 : Int) (m : jM) (Q : Int → jM → Prop) : Prop := jA (d + 1) zX11_tells 88 [some (jO 11 103), none, none, some (jL x3), none, some (jI x5), none] [] m Q
def aX11_tells_161 (d : Nat) (x3 x5 x6 : Int) (m : jM) (Q : Int → jM → Prop) : Prop := jA (d + 1) zX11_tells 161 [some (jO 11 103), none, none, some (jL x3), none, some (jI x5), some (jI x6)] [] m Q
set_option maxRecDepth 100000 in
theorem gX11_tells (d : Nat) (x1 x2 : Int) (m : jM) (Q : Int → jM → Prop)
    (h : jK d zX11_isSheet [jI x1] m (fun v1 m1 => (v1 = 0 → Q (-2) m1) ∧ (¬ v1 = 0 → jK d zX11_in [jL x2, jL 0, jL 2] m1 (fun v2 m2 => (v2 = 0 → Q (-2) m2) ∧ (¬ v2 = 0 → ((0 : Int) ≤ x1 ∧ (x1 : Int) < 4) ∧ ((m2 157 x1) = (-1) → Q (-11) m2) ∧ (¬ (m2 157 x1) = (-1) → jK d zX11_costs [jO 11 103] m2 (fun v3 m3 => jK d zX11_reads [jO 11 103, jI x1] m3 (fun v4 m4 => (v4 = 0 → Q (-3) m4) ∧ (¬ v4 = 0 → aX11_tells_55 d x2 0 m4 Q))))))))) :
    jK (d + 1) zX11_tells [jO 11 103, jI x1, jI x2] m Q := jWp_sn0 [(55, [true, false, true, true, false, false, false]), (88, [true, false, false, true, false, true, false]), (161, [true, false, false, true, false, true, true])] jcX11_tells 24 rfl h
set_option maxRecDepth 100000 in
theorem gX11_tells_55 (d : Nat) (x2 x3 : Int) (m : jM) (Q : Int → jM → Prop)
    (h : (x3 < 8 → ((0 : Int) ≤ x3 ∧ (x3 : Int) < 8) ∧ ((0 : Int) ≤ x3 ∧ (x3 : Int) < 8) ∧ aX11_tells_55 d x2 (w32 (x3 + 1)) (jUp m 148 x3 (m 131 x3)) Q) ∧ (¬ x3 < 8 → (x2 = 0 → aX11_tells_88 d 0 0 m Q) ∧ (¬ x2 = 0 → (x2 = 1 → jK d zX11_lists [jO 11 103] m (fun v1 m1 => jK d zX11_placeOf [jO 11 103] m1 (fun v2 m2 => Q v2 m2))) ∧ (¬ x2 = 1 → jK d zX11_least [jO 11 103] m (fun v3 m3 => aX11_tells_161 d v3 0 0 m3 Q))))) :
    aX11_tells_55 d x2 x3 m Q := jWp_snd [(55, [true, false, true, true, false, false, false]), (88, [true, false, false, true, false, true, false]), (161, [true, false, false, true, false, true, true])] jcX11_tells 16 rfl h
set_option maxRecDepth 100000 in
theorem gX11_tells_88 (d : Nat) (x3 x5 : Int) (m : jM) (Q : Int → jM → Prop)
    (h : (x5 < 8 → ((0 : Int) ≤ x5 ∧ (x5 : Int) < 8) ∧ ((m 148 x5) = (-1) → aX11_tells_88 d x3 (w32 (x5 + 1)) m Q) ∧ (¬ (m 148 x5) = (-1) → ((0 : Int) ≤ x5 ∧ (x5 : Int) < 8) ∧ ((0 : Int) ≤ (w32 ((w32 (8 * (m 148 x5))) + x5)) ∧ ((w32 ((w32 (8 * (m 148 x5))) + x5)) : Int) < 64) ∧ aX11_tells_88 d (w64 (x3 + (m 128 (w32 ((w32 (8 * (m 148 x5))) + x5))))) (w32 (x5 + 1)) m Q)) ∧ (¬ x5 < 8 → Q x3 m)) :
    aX11_tells_88 d x3 x5 m Q := jWp_snd [(55, [true, false, true, true, false, false, false]), (88, [true, false, false, true, false, true, false]), (161, [true, false, false, true, false, true, true])] jcX11_tells 26 rfl h
set_option maxRecDepth 100000 in
theorem gX11_tells_161 (d : Nat) (x3 x5 x6 : Int) (m : jM) (Q : Int → jM → Prop)
    (h : (x6 < 8 → ((0 : Int) ≤ x6 ∧ (x6 : Int) < 8) ∧ ((m 148 x6) = (-1) → aX11_tells_161 d x3 x5 (w32 (x6 + 1)) m Q) ∧ (¬ (m 148 x6) = (-1) → ((0 : Int) ≤ x6 ∧ (x6 : Int) < 8) ∧ jK d zX11_with [jO 11 103, jI (m 148 x6), jI x6] m (fun v1 m1 => (v1 = x3 → aX11_tells_161 d x3 (w32 (x5 + 1)) (w32 (x6 + 1)) m1 Q) ∧ (¬ v1 = x3 → aX11_tells_161 d x3 x5 (w32 (x6 + 1)) m1 Q)))) ∧ (¬ x6 < 8 → Q x5 m)) :
    aX11_tells_161 d x3 x5 x6 m Q := jWp_snd [(55, [true, false, true, true, false, false, false]), (88, [true, false, false, true, false, true, false]), (161, [true, false, false, true, false, true, true])] jcX11_tells 22 rfl h
def aX11_placeOf_2 (d : Nat) (x1 : Int) (m : jM) (Q : Int → jM → Prop) : Prop := jA (d + 1) zX11_placeOf 2 [some (jO 11 103), some (jI x1), none, none] [] m Q
def aX11_placeOf_14 (d : Nat) (x1 x2 x3 : Int) (m : jM) (Q : Int → jM → Prop) : Prop := jA (d + 1) zX11_placeOf 14 [some (jO 11 103), some (jI x1), some (jI x2), some (jI x3)] [] m Q
set_option maxRecDepth 100000 in
theorem gX11_placeOf (d : Nat) (m : jM) (Q : Int → jM → Prop)
    (h : aX11_placeOf_2 d 0 m Q) :
    jK (d + 1) zX11_placeOf [jO 11 103] m Q := jWp_sn0 [(2, [true, true, false, false]), (14, [true, true, true, true])] jcX11_placeOf 3 rfl h
set_option maxRecDepth 100000 in
theorem gX11_placeOf_2 (d : Nat) (x1 : Int) (m : jM) (Q : Int → jM → Prop)
    (h : (x1 < (m 103 48) → aX11_placeOf_14 d x1 0 0 m Q) ∧ (¬ x1 < (m 103 48) → Q (-1) m)) :
    aX11_placeOf_2 d x1 m Q := jWp_snd [(2, [true, true, false, false]), (14, [true, true, true, true])] jcX11_placeOf 9 rfl h
set_option maxRecDepth 100000 in
theorem gX11_placeOf_14 (d : Nat) (x1 x2 x3 : Int) (m : jM) (Q : Int → jM → Prop)
    (h : (x3 < 8 → ((0 : Int) ≤ (w32 ((w32 (8 * x1)) + x3)) ∧ ((w32 ((w32 (8 * x1)) + x3)) : Int) < 104) ∧ ((0 : Int) ≤ x3 ∧ (x3 : Int) < 8) ∧ ((m 134 (w32 ((w32 (8 * x1)) + x3))) = (m 148 x3) → aX11_placeOf_14 d x1 (w32 (x2 + 1)) (w32 (x3 + 1)) m Q) ∧ (¬ (m 134 (w32 ((w32 (8 * x1)) + x3))) = (m 148 x3) → aX11_placeOf_14 d x1 x2 (w32 (x3 + 1)) m Q)) ∧ (¬ x3 < 8 → (x2 = 8 → Q x1 m) ∧ (¬ x2 = 8 → aX11_placeOf_2 d (w32 (x1 + 1)) m Q))) :
    aX11_placeOf_14 d x1 x2 x3 m Q := jWp_snd [(2, [true, true, false, false]), (14, [true, true, true, true])] jcX11_placeOf 20 rfl h
def aX11_film_56 (d : Nat) (x1 x3 x4 : Int) (m : jM) (Q : Int → jM → Prop) : Prop := jA (d + 1) zX11_film 56 [some (jO 11 103), some (jI x1), none, some (jI x3), some (jI x4)] [] m Q
set_option maxRecDepth 100000 in
theorem gX11_film (d : Nat) (x1 x2 : Int) (m : jM) (Q : Int → jM → Prop)
    (h : jK d zX11_isSheet [jI x1] m (fun v1 m1 => (v1 = 0 → Q (-2) m1) ∧ (¬ v1 = 0 → jK d zX11_costs [jO 11 103] m1 (fun v2 m2 => jK d zX11_least [jO 11 103] m2 (fun v3 m3 => (v3 = 1125899906842624 → Q (-3) m3) ∧ (¬ v3 = 1125899906842624 → ((0 : Int) ≤ 0 ∧ (0 : Int) < 2304) ∧ jK d zX11_in [jL x2, jL 0, jL (w32 ((m3 130 0) - 1))] m3 (fun v4 m4 => (v4 = 0 → Q (-3) m4) ∧ (¬ v4 = 0 → jK d zX11_picks [jO 11 103, jI x2] m4 (fun v5 m5 => aX11_film_56 d x1 0 0 m5 Q))))))))) :
    jK (d + 1) zX11_film [jO 11 103, jI x1, jI x2] m Q := jWp_sn0 [(56, [true, true, false, true, true])] jcX11_film 29 rfl h
set_option maxRecDepth 100000 in
theorem gX11_film_56 (d : Nat) (x1 x3 x4 : Int) (m : jM) (Q : Int → jM → Prop)
    (h : (x4 < 8 → ((0 : Int) ≤ x4 ∧ (x4 : Int) < 8) ∧ ((m 131 x4) = (-1) → aX11_film_56 d x1 x3 (w32 (x4 + 1)) m Q) ∧ (¬ (m 131 x4) = (-1) → ((0 : Int) ≤ x4 ∧ (x4 : Int) < 8) ∧ ((0 : Int) ≤ (w32 ((w32 (40 * x1)) + x3)) ∧ ((w32 ((w32 (40 * x1)) + x3)) : Int) < 160) ∧ aX11_film_56 d x1 (w32 (x3 + 1)) (w32 (x4 + 1)) (jUp m 159 (w32 ((w32 (40 * x1)) + x3)) (m 131 x4)) Q)) ∧ (¬ x4 < 8 → ((0 : Int) ≤ x1 ∧ (x1 : Int) < 4) ∧ ((0 : Int) ≤ x1 ∧ (x1 : Int) < 4) ∧ Q x3 (jUp (jUp m 157 x1 0) 158 x1 x3))) :
    aX11_film_56 d x1 x3 x4 m Q := jWp_snd [(56, [true, true, false, true, true])] jcX11_film 26 rfl h
def aX11_copies_3 (d : Nat) (n0 y0 n1 y1 x2 x3 x4 x5 : Int) (m : jM) (Q : Int → jM → Prop) : Prop := jA (d + 1) zX11_copies 3 [some (jY 0 n0 y0), some (jY 0 n1 y1), some (jI x2), some (jI x3), some (jI x4), some (jI x5)] [] m Q
set_option maxRecDepth 100000 in
theorem gX11_copies (d : Nat) (n0 y0 n1 y1 x2 x3 x4 : Int) (m : jM) (Q : Int → jM → Prop)
    (h : aX11_copies_3 d n0 y0 n1 y1 x2 x3 x4 0 m Q) :
    jK (d + 1) zX11_copies [jY 0 n0 y0, jY 0 n1 y1, jI x2, jI x3, jI x4] m Q := jWp_sn0 [(3, [true, true, true, true, true, true])] jcX11_copies 3 rfl h
set_option maxRecDepth 100000 in
theorem gX11_copies_3 (d : Nat) (n0 y0 n1 y1 x2 x3 x4 x5 : Int) (m : jM) (Q : Int → jM → Prop)
    (h : (x5 < x3 → (x4 = 0 → ((0 : Int) ≤ x5 ∧ (x5 : Int) < n0) ∧ ((0 : Int) ≤ (w32 (x2 + x5)) ∧ ((w32 (x2 + x5)) : Int) < n1) ∧ aX11_copies_3 d n0 y0 n1 y1 x2 x3 x4 (w32 (x5 + 1)) (jUp m y1 (w32 (x2 + x5)) (m y0 x5)) Q) ∧ (¬ x4 = 0 → ((0 : Int) ≤ (w32 (x2 + x5)) ∧ ((w32 (x2 + x5)) : Int) < n1) ∧ ((0 : Int) ≤ x5 ∧ (x5 : Int) < n0) ∧ aX11_copies_3 d n0 y0 n1 y1 x2 x3 x4 (w32 (x5 + 1)) (jUp m y0 x5 (m y1 (w32 (x2 + x5)))) Q)) ∧ (¬ x5 < x3 → Q 0 m)) :
    aX11_copies_3 d n0 y0 n1 y1 x2 x3 x4 x5 m Q := jWp_snd [(3, [true, true, true, true, true, true])] jcX11_copies 17 rfl h
def aX11_keeps_202 (d : Nat) (x1 x3 : Int) (m : jM) (Q : Int → jM → Prop) : Prop := jA (d + 1) zX11_keeps 202 [some (jO 11 103), some (jI x1), none, some (jI x3)] [] m Q
set_option maxRecDepth 100000 in
theorem gX11_keeps (d : Nat) (x1 : Int) (m : jM) (Q : Int → jM → Prop)
    (h : jK d zX11_copies [jY 0 16 104, jY 0 16 149, jI 0, jI 16, jI x1] m (fun v1 m1 => jK d zX11_copies [jY 0 48 105, jY 0 48 150, jI 0, jI 48, jI x1] m1 (fun v2 m2 => jK d zX11_copies [jY 0 64 107, jY 0 64 152, jI 0, jI 64, jI x1] m2 (fun v3 m3 => jK d zX11_copies [jY 0 4 108, jY 0 4 153, jI 0, jI 4, jI x1] m3 (fun v4 m4 => jK d zX11_copies [jY 0 4 109, jY 0 4 154, jI 0, jI 4, jI x1] m4 (fun v5 m5 => jK d zX11_copies [jY 0 16 110, jY 0 16 155, jI 0, jI 16, jI x1] m5 (fun v6 m6 => jK d zX11_copies [jY 0 96 111, jY 0 672 156, jI 0, jI 96, jI x1] m6 (fun v7 m7 => jK d zX11_copies [jY 0 96 112, jY 0 672 156, jI 96, jI 96, jI x1] m7 (fun v8 m8 => jK d zX11_copies [jY 0 96 113, jY 0 672 156, jI (w32 (2 * 96)), jI 96, jI x1] m8 (fun v9 m9 => jK d zX11_copies [jY 0 96 114, jY 0 672 156, jI (w32 (3 * 96)), jI 96, jI x1] m9 (fun v10 m10 => jK d zX11_copies [jY 0 96 115, jY 0 672 156, jI (w32 (4 * 96)), jI 96, jI x1] m10 (fun v11 m11 => jK d zX11_copies [jY 0 96 116, jY 0 672 156, jI (w32 (5 * 96)), jI 96, jI x1] m11 (fun v12 m12 => jK d zX11_copies [jY 0 96 117, jY 0 672 156, jI (w32 (6 * 96)), jI 96, jI x1] m12 (fun v13 m13 => aX11_keeps_202 d x1 0 m13 Q)))))))))))))) :
    jK (d + 1) zX11_keeps [jO 11 103, jI x1] m Q := jWp_sn0 [(202, [true, true, false, true])] jcX11_keeps 119 rfl h
set_option maxRecDepth 100000 in
theorem gX11_keeps_202 (d : Nat) (x1 x3 : Int) (m : jM) (Q : Int → jM → Prop)
    (h : (x3 < 64 → (x1 = 0 → ((0 : Int) ≤ x3 ∧ (x3 : Int) < 64) ∧ ((0 : Int) ≤ x3 ∧ (x3 : Int) < 64) ∧ aX11_keeps_202 d x1 (w32 (x3 + 1)) (jUp m 151 x3 (m 106 x3)) Q) ∧ (¬ x1 = 0 → ((0 : Int) ≤ x3 ∧ (x3 : Int) < 64) ∧ ((0 : Int) ≤ x3 ∧ (x3 : Int) < 64) ∧ aX11_keeps_202 d x1 (w32 (x3 + 1)) (jUp m 106 x3 (m 151 x3)) Q)) ∧ (¬ x3 < 64 → Q 0 m)) :
    aX11_keeps_202 d x1 x3 m Q := jWp_snd [(202, [true, true, false, true])] jcX11_keeps 17 rfl h
set_option maxRecDepth 100000 in
theorem gX11_image (d : Nat) (m : jM) (Q : Int → jM → Prop)
    (h : jK d zX11_keeps [jO 11 103, jI 0] m (fun v1 m1 => jK d zX11_costs [jO 11 103] (jUp m1 103 68 1) (fun v2 m2 => jK d zX11_openMany [jO 11 103] m2 (fun v3 m3 => Q v3 m3)))) :
    jK (d + 1) zX11_image [jO 11 103] m Q := jWp_sn0 [] jcX11_image 12 rfl h
set_option maxRecDepth 100000 in
theorem gX11_back (d : Nat) (m : jM) (Q : Int → jM → Prop)
    (h : ((m 103 68) = 0 → Q (-3) m) ∧ (¬ (m 103 68) = 0 → jK d zX11_keeps [jO 11 103, jI 1] m (fun v1 m1 => jK d zX11_costs [jO 11 103] m1 (fun v2 m2 => jK d zX11_openMany [jO 11 103] m2 (fun v3 m3 => Q v3 m3))))) :
    jK (d + 1) zX11_back [jO 11 103] m Q := jWp_sn0 [] jcX11_back 12 rfl h
def aX11_marksOf_4 (d : Nat) (x1 x2 x3 : Int) (m : jM) (Q : Int → jM → Prop) : Prop := jA (d + 1) zX11_marksOf 4 [some (jO 11 103), some (jI x1), some (jI x2), some (jI x3)] [] m Q
set_option maxRecDepth 100000 in
theorem gX11_marksOf (d : Nat) (x1 : Int) (m : jM) (Q : Int → jM → Prop)
    (h : aX11_marksOf_4 d x1 0 0 m Q) :
    jK (d + 1) zX11_marksOf [jO 11 103, jI x1] m Q := jWp_sn0 [(4, [true, true, true, true])] jcX11_marksOf 5 rfl h
set_option maxRecDepth 100000 in
theorem gX11_marksOf_4 (d : Nat) (x1 x2 x3 : Int) (m : jM) (Q : Int → jM → Prop)
    (h : (x3 < 64 → ((0 : Int) ≤ x3 ∧ (x3 : Int) < 64) ∧ ((m 107 x3) = x1 → aX11_marksOf_4 d x1 (w32 (x2 + 1)) (w32 (x3 + 1)) m Q) ∧ (¬ (m 107 x3) = x1 → aX11_marksOf_4 d x1 x2 (w32 (x3 + 1)) m Q)) ∧ (¬ x3 < 64 → Q x2 m)) :
    aX11_marksOf_4 d x1 x2 x3 m Q := jWp_snd [(4, [true, true, true, true])] jcX11_marksOf 13 rfl h
def aX11_count_50 (d : Nat) (x2 x3 : Int) (m : jM) (Q : Int → jM → Prop) : Prop := jA (d + 1) zX11_count 50 [some (jO 11 103), none, some (jI x2), some (jI x3)] [] m Q
def aX11_count_101 (d : Nat) (x2 x3 : Int) (m : jM) (Q : Int → jM → Prop) : Prop := jA (d + 1) zX11_count 101 [some (jO 11 103), none, some (jI x2), some (jI x3)] [] m Q
set_option maxRecDepth 100000 in
theorem gX11_count (d : Nat) (x1 : Int) (m : jM) (Q : Int → jM → Prop)
    (h : (x1 = 0 + 0 → aX11_count_50 d 0 0 m Q) ∧ (x1 = 0 + 1 → jK d zX11_casesMany [jO 11 103] m (fun v1 m1 => Q v1 m1)) ∧ (x1 = 0 + 2 → jK d zX11_costs [jO 11 103] m (fun v2 m2 => jK d zX11_openMany [jO 11 103] m2 (fun v3 m3 => Q v3 m3))) ∧ (x1 = 0 + 3 → jK d zX11_marksOf [jO 11 103, jI 2] m (fun v4 m4 => Q v4 m4)) ∧ (x1 = 0 + 4 → jK d zX11_marksOf [jO 11 103, jI 1] m (fun v5 m5 => Q v5 m5)) ∧ (x1 = 0 + 5 → aX11_count_101 d 0 0 m Q) ∧ (x1 = 0 + 6 → Q (m 103 50) m) ∧ (x1 = 0 + 7 → Q (m 103 16) m) ∧ (x1 < 0 ∨ 7 < x1 → Q (-2) m) ∧ True) :
    jK (d + 1) zX11_count [jO 11 103, jI x1] m Q := jWp_sn0 [(50, [true, false, true, true]), (101, [true, false, true, true])] jcX11_count 10 rfl h
set_option maxRecDepth 100000 in
theorem gX11_count_50 (d : Nat) (x2 x3 : Int) (m : jM) (Q : Int → jM → Prop)
    (h : (x3 < 8 → ((0 : Int) ≤ x3 ∧ (x3 : Int) < 16) ∧ aX11_count_50 d (w32 (x2 + (m 104 x3))) (w32 (x3 + 1)) m Q) ∧ (¬ x3 < 8 → Q x2 m)) :
    aX11_count_50 d x2 x3 m Q := jWp_snd [(50, [true, false, true, true]), (101, [true, false, true, true])] jcX11_count 13 rfl h
set_option maxRecDepth 100000 in
theorem gX11_count_101 (d : Nat) (x2 x3 : Int) (m : jM) (Q : Int → jM → Prop)
    (h : (x3 < 64 → ((0 : Int) ≤ x3 ∧ (x3 : Int) < 64) ∧ ((m 106 x3) = (-1) → aX11_count_101 d x2 (w32 (x3 + 1)) m Q) ∧ (¬ (m 106 x3) = (-1) → aX11_count_101 d (w32 (x2 + 1)) (w32 (x3 + 1)) m Q)) ∧ (¬ x3 < 64 → Q x2 m)) :
    aX11_count_101 d x2 x3 m Q := jWp_snd [(50, [true, false, true, true]), (101, [true, false, true, true])] jcX11_count 13 rfl h
set_option maxRecDepth 100000 in
theorem gX11_isSheet (d : Nat) (x0 : Int) (m : jM) (Q : Int → jM → Prop)
    (h : jK d zX11_in [jL x0, jL 0, jL 3] m (fun v1 m1 => (if v1 = 0 ∨ v1 = 1 then Q v1 m1 else False))) :
    jK (d + 1) zX11_isSheet [jI x0] m Q := jWp_sn0 [] jcX11_isSheet 7 rfl h
def aX11_sheet_47 (d : Nat) (x1 x2 x3 : Int) (m : jM) (Q : Int → jM → Prop) : Prop := jA (d + 1) zX11_sheet 47 [some (jO 11 103), some (jI x1), some (jI x2), some (jI x3), none] [] m Q
def aX11_sheet_73 (d : Nat) (x1 x4 : Int) (m : jM) (Q : Int → jM → Prop) : Prop := jA (d + 1) zX11_sheet 73 [some (jO 11 103), some (jI x1), none, none, some (jI x4)] [] m Q
set_option maxRecDepth 100000 in
theorem gX11_sheet (d : Nat) (x1 x2 x3 : Int) (m : jM) (Q : Int → jM → Prop)
    (h : jK d zX11_isSheet [jI x1] m (fun v1 m1 => (v1 = 0 → Q (-2) m1) ∧ (¬ v1 = 0 → jK d zX11_in [jL x2, jL (-1), jL 2] m1 (fun v2 m2 => (v2 = 0 → Q (-2) m2) ∧ (¬ v2 = 0 → (x2 = (-1) → (x2 = (-1) → aX11_sheet_47 d x1 x2 x3 m2 Q) ∧ (¬ x2 = (-1) → (x3 < 0 → Q (-14) m2) ∧ (¬ x3 < 0 → aX11_sheet_47 d x1 x2 x3 m2 Q))) ∧ (¬ x2 = (-1) → (40 < x3 → Q (-2) m2) ∧ (¬ 40 < x3 → (x2 = (-1) → aX11_sheet_47 d x1 x2 x3 m2 Q) ∧ (¬ x2 = (-1) → (x3 < 0 → Q (-14) m2) ∧ (¬ x3 < 0 → aX11_sheet_47 d x1 x2 x3 m2 Q))))))))) :
    jK (d + 1) zX11_sheet [jO 11 103, jI x1, jI x2, jI x3] m Q := jWp_sn0 [(47, [true, true, true, true, false]), (73, [true, true, false, false, true])] jcX11_sheet 23 rfl h
set_option maxRecDepth 100000 in
theorem gX11_sheet_47 (d : Nat) (x1 x2 x3 : Int) (m : jM) (Q : Int → jM → Prop)
    (h : ((0 : Int) ≤ x1 ∧ (x1 : Int) < 4) ∧ (x2 = (-1) → ((0 : Int) ≤ x1 ∧ (x1 : Int) < 4) ∧ aX11_sheet_73 d x1 0 (jUp (jUp m 157 x1 x2) 158 x1 0) Q) ∧ (¬ x2 = (-1) → ((0 : Int) ≤ x1 ∧ (x1 : Int) < 4) ∧ aX11_sheet_73 d x1 0 (jUp (jUp m 157 x1 x2) 158 x1 x3) Q)) :
    aX11_sheet_47 d x1 x2 x3 m Q := jWp_snd [(47, [true, true, true, true, false]), (73, [true, true, false, false, true])] jcX11_sheet 17 rfl h
set_option maxRecDepth 100000 in
theorem gX11_sheet_73 (d : Nat) (x1 x4 : Int) (m : jM) (Q : Int → jM → Prop)
    (h : (x4 < 40 → ((0 : Int) ≤ (w32 ((w32 (40 * x1)) + x4)) ∧ ((w32 ((w32 (40 * x1)) + x4)) : Int) < 160) ∧ aX11_sheet_73 d x1 (w32 (x4 + 1)) (jUp m 159 (w32 ((w32 (40 * x1)) + x4)) 0) Q) ∧ (¬ x4 < 40 → Q 1 m)) :
    aX11_sheet_73 d x1 x4 m Q := jWp_snd [(47, [true, true, true, true, false]), (73, [true, true, false, false, true])] jcX11_sheet 15 rfl h
set_option maxRecDepth 100000 in
theorem gX11_put (d : Nat) (x1 x2 x3 : Int) (m : jM) (Q : Int → jM → Prop)
    (h : jK d zX11_isSheet [jI x1] m (fun v1 m1 => (v1 = 0 → Q (-2) m1) ∧ (¬ v1 = 0 → ((0 : Int) ≤ x1 ∧ (x1 : Int) < 4) ∧ ((m1 157 x1) = (-1) → Q (-11) m1) ∧ (¬ (m1 157 x1) = (-1) → ((0 : Int) ≤ x1 ∧ (x1 : Int) < 4) ∧ jK d zX11_in [jL x2, jL 0, jL (w32 ((m1 158 x1) - 1))] m1 (fun v2 m2 => (v2 = 0 → Q (-12) m2) ∧ (¬ v2 = 0 → ((0 : Int) ≤ x1 ∧ (x1 : Int) < 4) ∧ ((m2 157 x1) = 0 → ((0 : Int) ≤ (w32 ((w32 (40 * x1)) + x2)) ∧ ((w32 ((w32 (40 * x1)) + x2)) : Int) < 160) ∧ Q 1 (jUp m2 159 (w32 ((w32 (40 * x1)) + x2)) x3)) ∧ (¬ (m2 157 x1) = 0 → ((0 : Int) ≤ x1 ∧ (x1 : Int) < 4) ∧ ((m2 157 x1) = 1 → ((0 : Int) ≤ (w32 ((w32 (40 * x1)) + x2)) ∧ ((w32 ((w32 (40 * x1)) + x2)) : Int) < 160) ∧ Q 1 (jUp m2 159 (w32 ((w32 (40 * x1)) + x2)) (w32 x3))) ∧ (¬ (m2 157 x1) = 1 → ((0 : Int) ≤ (w32 ((w32 (40 * x1)) + x2)) ∧ ((w32 ((w32 (40 * x1)) + x2)) : Int) < 160) ∧ Q 1 (jUp m2 159 (w32 ((w32 (40 * x1)) + x2)) (i2b (w32 x3))))))))))) :
    jK (d + 1) zX11_put [jO 11 103, jI x1, jI x2, jL x3] m Q := jWp_sn0 [] jcX11_put 47 rfl h
set_option maxRecDepth 100000 in
theorem gX11_item (d : Nat) (x1 x2 : Int) (m : jM) (Q : Int → jM → Prop)
    (h : jK d zX11_isSheet [jI x1] m (fun v1 m1 => (v1 = 0 → Q (-4611686018427387904) m1) ∧ (¬ v1 = 0 → ((0 : Int) ≤ x1 ∧ (x1 : Int) < 4) ∧ ((m1 157 x1) = (-1) → Q (-4611686018427387904) m1) ∧ (¬ (m1 157 x1) = (-1) → ((0 : Int) ≤ x1 ∧ (x1 : Int) < 4) ∧ jK d zX11_in [jL x2, jL 0, jL (w32 ((m1 158 x1) - 1))] m1 (fun v2 m2 => (v2 = 0 → Q (-4611686018427387904) m2) ∧ (¬ v2 = 0 → ((0 : Int) ≤ (w32 ((w32 (40 * x1)) + x2)) ∧ ((w32 ((w32 (40 * x1)) + x2)) : Int) < 160) ∧ Q (m2 159 (w32 ((w32 (40 * x1)) + x2))) m2)))))) :
    jK (d + 1) zX11_item [jO 11 103, jI x1, jI x2] m Q := jWp_sn0 [] jcX11_item 32 rfl h
def aX11_copy_123 (d : Nat) (x1 x2 x3 x4 x5 x6 x7 : Int) (m : jM) (Q : Int → jM → Prop) : Prop := jA (d + 1) zX11_copy 123 [some (jO 11 103), some (jI x1), some (jI x2), some (jI x3), some (jI x4), some (jI x5), some (jI x6), some (jI x7), none] [] m Q
set_option maxRecDepth 100000 in
theorem gX11_copy (d : Nat) (x1 x2 x3 x4 x5 : Int) (m : jM) (Q : Int → jM → Prop)
    (h : jK d zX11_isSheet [jI x1] m (fun v1 m1 => (v1 = 0 → Q (-2) m1) ∧ (¬ v1 = 0 → jK d zX11_isSheet [jI x3] m1 (fun v2 m2 => (v2 = 0 → Q (-2) m2) ∧ (¬ v2 = 0 → ((0 : Int) ≤ x1 ∧ (x1 : Int) < 4) ∧ ((m2 157 x1) = (-1) → Q (-11) m2) ∧ (¬ (m2 157 x1) = (-1) → ((0 : Int) ≤ x3 ∧ (x3 : Int) < 4) ∧ ((m2 157 x3) = (-1) → Q (-11) m2) ∧ (¬ (m2 157 x3) = (-1) → ((0 : Int) ≤ x1 ∧ (x1 : Int) < 4) ∧ ((0 : Int) ≤ x3 ∧ (x3 : Int) < 4) ∧ ((m2 157 x1) = (m2 157 x3) → (x5 < 0 → Q (-12) m2) ∧ (¬ x5 < 0 → (x2 < 0 → Q (-12) m2) ∧ (¬ x2 < 0 → (x4 < 0 → Q (-12) m2) ∧ (¬ x4 < 0 → ((0 : Int) ≤ x1 ∧ (x1 : Int) < 4) ∧ ((w32 ((m2 158 x1) - x5)) < x2 → Q (-12) m2) ∧ (¬ (w32 ((m2 158 x1) - x5)) < x2 → ((0 : Int) ≤ x3 ∧ (x3 : Int) < 4) ∧ ((w32 ((m2 158 x3) - x5)) < x4 → Q (-12) m2) ∧ (¬ (w32 ((m2 158 x3) - x5)) < x4 → (x1 = x3 → (x2 < x4 → aX11_copy_123 d x1 x2 x3 x4 x5 1 0 m2 Q) ∧ (¬ x2 < x4 → aX11_copy_123 d x1 x2 x3 x4 x5 0 0 m2 Q)) ∧ (¬ x1 = x3 → aX11_copy_123 d x1 x2 x3 x4 x5 0 0 m2 Q))))))) ∧ (¬ (m2 157 x1) = (m2 157 x3) → Q (-13) m2)))))))) :
    jK (d + 1) zX11_copy [jO 11 103, jI x1, jI x2, jI x3, jI x4, jI x5] m Q := jWp_sn0 [(123, [true, true, true, true, true, true, true, true, false])] jcX11_copy 61 rfl h
set_option maxRecDepth 100000 in
theorem gX11_copy_123 (d : Nat) (x1 x2 x3 x4 x5 x6 x7 : Int) (m : jM) (Q : Int → jM → Prop)
    (h : (x7 < x5 → (x6 = 0 → ((0 : Int) ≤ (w32 ((w32 ((w32 (40 * x1)) + x2)) + x7)) ∧ ((w32 ((w32 ((w32 (40 * x1)) + x2)) + x7)) : Int) < 160) ∧ ((0 : Int) ≤ (w32 ((w32 ((w32 (40 * x3)) + x4)) + x7)) ∧ ((w32 ((w32 ((w32 (40 * x3)) + x4)) + x7)) : Int) < 160) ∧ aX11_copy_123 d x1 x2 x3 x4 x5 x6 (w32 (x7 + 1)) (jUp m 159 (w32 ((w32 ((w32 (40 * x3)) + x4)) + x7)) (m 159 (w32 ((w32 ((w32 (40 * x1)) + x2)) + x7)))) Q) ∧ (¬ x6 = 0 → ((0 : Int) ≤ (w32 ((w32 ((w32 (40 * x1)) + x2)) + (w32 ((w32 (x5 - 1)) - x7)))) ∧ ((w32 ((w32 ((w32 (40 * x1)) + x2)) + (w32 ((w32 (x5 - 1)) - x7)))) : Int) < 160) ∧ ((0 : Int) ≤ (w32 ((w32 ((w32 (40 * x3)) + x4)) + (w32 ((w32 (x5 - 1)) - x7)))) ∧ ((w32 ((w32 ((w32 (40 * x3)) + x4)) + (w32 ((w32 (x5 - 1)) - x7)))) : Int) < 160) ∧ aX11_copy_123 d x1 x2 x3 x4 x5 x6 (w32 (x7 + 1)) (jUp m 159 (w32 ((w32 ((w32 (40 * x3)) + x4)) + (w32 ((w32 (x5 - 1)) - x7)))) (m 159 (w32 ((w32 ((w32 (40 * x1)) + x2)) + (w32 ((w32 (x5 - 1)) - x7)))))) Q)) ∧ (¬ x7 < x5 → Q x5 m)) :
    aX11_copy_123 d x1 x2 x3 x4 x5 x6 x7 m Q := jWp_snd [(123, [true, true, true, true, true, true, true, true, false])] jcX11_copy 35 rfl h
def aX11_lay_98 (d : Nat) (x1 x2 x4 x5 x6 : Int) (m : jM) (Q : Int → jM → Prop) : Prop := jA (d + 1) zX11_lay 98 [some (jO 11 103), some (jI x1), some (jI x2), none, some (jI x4), some (jI x5), some (jI x6), none, none] [] m Q
set_option maxRecDepth 100000 in
theorem gX11_lay (d : Nat) (x1 x2 x3 x4 x5 : Int) (m : jM) (Q : Int → jM → Prop)
    (h : jK d zX11_isSheet [jI x1] m (fun v1 m1 => (v1 = 0 → Q (-2) m1) ∧ (¬ v1 = 0 → jK d zX11_in [jL x2, jL 0, jL 7] m1 (fun v2 m2 => (v2 = 0 → Q (-2) m2) ∧ (¬ v2 = 0 → jK d zX11_in [jL x3, jL 0, jL 2] m2 (fun v3 m3 => (v3 = 0 → Q (-2) m3) ∧ (¬ v3 = 0 → jK d zX11_in [jL x5, jL 1, jL 8] m3 (fun v4 m4 => (v4 = 0 → Q (-2) m4) ∧ (¬ v4 = 0 → ((0 : Int) ≤ x1 ∧ (x1 : Int) < 4) ∧ ((m4 157 x1) = (-1) → Q (-11) m4) ∧ (¬ (m4 157 x1) = (-1) → ((0 : Int) ≤ x1 ∧ (x1 : Int) < 4) ∧ ((m4 157 x1) = x3 → (x4 < 0 → Q (-12) m4) ∧ (¬ x4 < 0 → ((0 : Int) ≤ x1 ∧ (x1 : Int) < 4) ∧ ((w32 ((m4 158 x1) - x5)) < x4 → Q (-12) m4) ∧ (¬ (w32 ((m4 158 x1) - x5)) < x4 → aX11_lay_98 d x1 x2 x4 x5 0 m4 Q))) ∧ (¬ (m4 157 x1) = x3 → Q (-13) m4))))))))))) :
    jK (d + 1) zX11_lay [jO 11 103, jI x1, jI x2, jI x3, jI x4, jI x5] m Q := jWp_sn0 [(98, [true, true, true, false, true, true, true, false, false])] jcX11_lay 46 rfl h
set_option maxRecDepth 100000 in
theorem gX11_lay_98 (d : Nat) (x1 x2 x4 x5 x6 : Int) (m : jM) (Q : Int → jM → Prop)
    (h : (x6 < x5 → ((0 : Int) ≤ (w32 ((w32 ((w32 (40 * x1)) + x4)) + x6)) ∧ ((w32 ((w32 ((w32 (40 * x1)) + x4)) + x6)) : Int) < 160) ∧ (1000000000 : Int) ≠ 0 ∧ ((lRem (m 159 (w32 ((w32 ((w32 (40 * x1)) + x4)) + x6))) 1000000000) < 0 → ((0 : Int) ≤ (w32 ((w32 (8 * x2)) + x6)) ∧ ((w32 ((w32 (8 * x2)) + x6)) : Int) < 64) ∧ aX11_lay_98 d x1 x2 x4 x5 (w32 (x6 + 1)) (jUp m 106 (w32 ((w32 (8 * x2)) + x6)) (w64 (-(lRem (m 159 (w32 ((w32 ((w32 (40 * x1)) + x4)) + x6))) 1000000000)))) Q) ∧ (¬ (lRem (m 159 (w32 ((w32 ((w32 (40 * x1)) + x4)) + x6))) 1000000000) < 0 → ((0 : Int) ≤ (w32 ((w32 (8 * x2)) + x6)) ∧ ((w32 ((w32 (8 * x2)) + x6)) : Int) < 64) ∧ aX11_lay_98 d x1 x2 x4 x5 (w32 (x6 + 1)) (jUp m 106 (w32 ((w32 (8 * x2)) + x6)) (lRem (m 159 (w32 ((w32 ((w32 (40 * x1)) + x4)) + x6))) 1000000000)) Q)) ∧ (¬ x6 < x5 → Q x5 m)) :
    aX11_lay_98 d x1 x2 x4 x5 x6 m Q := jWp_snd [(98, [true, true, true, false, true, true, true, false, false])] jcX11_lay 33 rfl h
set_option maxRecDepth 100000 in
theorem gJ6_bitCount_0f7a4 (d : Nat) (x0 : Int) (m : jM) (Q : Int → jM → Prop)
    (h : Q (iAnd (w32 ((w32 ((iAnd (w32 ((w32 ((iAnd (w32 (x0 - (iAnd (iUshr x0 1) 1431655765))) 858993459) + (iAnd (iUshr (w32 (x0 - (iAnd (iUshr x0 1) 1431655765))) 2) 858993459))) + (iUshr (w32 ((iAnd (w32 (x0 - (iAnd (iUshr x0 1) 1431655765))) 858993459) + (iAnd (iUshr (w32 (x0 - (iAnd (iUshr x0 1) 1431655765))) 2) 858993459))) 4))) 252645135) + (iUshr (iAnd (w32 ((w32 ((iAnd (w32 (x0 - (iAnd (iUshr x0 1) 1431655765))) 858993459) + (iAnd (iUshr (w32 (x0 - (iAnd (iUshr x0 1) 1431655765))) 2) 858993459))) + (iUshr (w32 ((iAnd (w32 (x0 - (iAnd (iUshr x0 1) 1431655765))) 858993459) + (iAnd (iUshr (w32 (x0 - (iAnd (iUshr x0 1) 1431655765))) 2) 858993459))) 4))) 252645135) 8))) + (iUshr (w32 ((iAnd (w32 ((w32 ((iAnd (w32 (x0 - (iAnd (iUshr x0 1) 1431655765))) 858993459) + (iAnd (iUshr (w32 (x0 - (iAnd (iUshr x0 1) 1431655765))) 2) 858993459))) + (iUshr (w32 ((iAnd (w32 (x0 - (iAnd (iUshr x0 1) 1431655765))) 858993459) + (iAnd (iUshr (w32 (x0 - (iAnd (iUshr x0 1) 1431655765))) 2) 858993459))) 4))) 252645135) + (iUshr (iAnd (w32 ((w32 ((iAnd (w32 (x0 - (iAnd (iUshr x0 1) 1431655765))) 858993459) + (iAnd (iUshr (w32 (x0 - (iAnd (iUshr x0 1) 1431655765))) 2) 858993459))) + (iUshr (w32 ((iAnd (w32 (x0 - (iAnd (iUshr x0 1) 1431655765))) 858993459) + (iAnd (iUshr (w32 (x0 - (iAnd (iUshr x0 1) 1431655765))) 2) 858993459))) 4))) 252645135) 8))) 16))) 63) m) :
    jK (d + 1) zJ6_bitCount_0f7a4 [jI x0] m Q := jWp_sn0 [] jcJ6_bitCount_0f7a4 43 rfl h
set_option maxRecDepth 100000 in
theorem gJ9_floorDiv_f86c9 (d : Nat) (x0 x2 : Int) (m : jM) (Q : Int → jM → Prop)
    (h : (x2 : Int) ≠ 0 ∧ ((lXor x0 x2) < 0 → ((w64 ((lDiv x0 x2) * x2)) = x0 → Q (lDiv x0 x2) m) ∧ (¬ (w64 ((lDiv x0 x2) * x2)) = x0 → Q (w64 ((lDiv x0 x2) - 1)) m)) ∧ (¬ (lXor x0 x2) < 0 → Q (lDiv x0 x2) m)) :
    jK (d + 1) zJ9_floorDiv_f86c9 [jL x0, jL x2] m Q := jWp_sn0 [] jcJ9_floorDiv_f86c9 19 rfl h
set_option maxRecDepth 100000 in
theorem gJ9_floorMod_f86c9 (d : Nat) (x0 x2 : Int) (m : jM) (Q : Int → jM → Prop)
    (h : (x2 : Int) ≠ 0 ∧ ((lXor x0 x2) < 0 → ((lRem x0 x2) = 0 → Q (lRem x0 x2) m) ∧ (¬ (lRem x0 x2) = 0 → Q (w64 ((lRem x0 x2) + x2)) m)) ∧ (¬ (lXor x0 x2) < 0 → Q (lRem x0 x2) m)) :
    jK (d + 1) zJ9_floorMod_f86c9 [jL x0, jL x2] m Q := jWp_sn0 [] jcJ9_floorMod_f86c9 17 rfl h
set_option maxRecDepth 100000 in
theorem gJ9_abs_067f4 (d : Nat) (x0 : Int) (m : jM) (Q : Int → jM → Prop)
    (h : (x0 < 0 → Q (w64 (-x0)) m) ∧ (¬ x0 < 0 → Q x0 m)) :
    jK (d + 1) zJ9_abs_067f4 [jL x0] m Q := jWp_sn0 [] jcJ9_abs_067f4 8 rfl h
set_option maxRecDepth 100000 in
theorem gJ9_max_f86c9 (d : Nat) (x0 x2 : Int) (m : jM) (Q : Int → jM → Prop)
    (h : (x0 < x2 → Q x2 m) ∧ (¬ x0 < x2 → Q x0 m)) :
    jK (d + 1) zJ9_max_f86c9 [jL x0, jL x2] m Q := jWp_sn0 [] jcJ9_max_f86c9 7 rfl h
set_option maxRecDepth 100000 in
theorem gJ9_min_f86c9 (d : Nat) (x0 x2 : Int) (m : jM) (Q : Int → jM → Prop)
    (h : (x2 < x0 → Q x2 m) ∧ (¬ x2 < x0 → Q x0 m)) :
    jK (d + 1) zJ9_min_f86c9 [jL x0, jL x2] m Q := jWp_sn0 [] jcJ9_min_f86c9 7 rfl h
def aJ7_fill_d0a16_6 (d : Nat) (n0 y0 x1 x3 x4 : Int) (m : jM) (Q : Int → jM → Prop) : Prop := jA (d + 1) zJ7_fill_d0a16 6 [some (jY 1 n0 y0), some (jL x1), none, some (jI x3), some (jI x4)] [] m Q
set_option maxRecDepth 100000 in
theorem gJ7_fill_d0a16 (d : Nat) (n0 y0 x1 : Int) (m : jM) (Q : Int → jM → Prop)
    (h : aJ7_fill_d0a16_6 d n0 y0 x1 0 n0 m Q) :
    jK (d + 1) zJ7_fill_d0a16 [jY 1 n0 y0, jL x1] m Q := jWp_sn0 [(6, [true, true, false, true, true])] jcJ7_fill_d0a16 6 rfl h
set_option maxRecDepth 100000 in
theorem gJ7_fill_d0a16_6 (d : Nat) (n0 y0 x1 x3 x4 : Int) (m : jM) (Q : Int → jM → Prop)
    (h : (x3 < x4 → ((0 : Int) ≤ x3 ∧ (x3 : Int) < n0) ∧ aJ7_fill_d0a16_6 d n0 y0 x1 (w32 (x3 + 1)) x4 (jUp m y0 x3 x1) Q) ∧ (¬ x3 < x4 → Q 0 m)) :
    aJ7_fill_d0a16_6 d n0 y0 x1 x3 x4 m Q := jWp_snd [(6, [true, true, false, true, true])] jcJ7_fill_d0a16 10 rfl h
def aJ7_fill_53178_5 (d : Nat) (n0 y0 x1 x2 x3 : Int) (m : jM) (Q : Int → jM → Prop) : Prop := jA (d + 1) zJ7_fill_53178 5 [some (jY 0 n0 y0), some (jI x1), some (jI x2), some (jI x3)] [] m Q
set_option maxRecDepth 100000 in
theorem gJ7_fill_53178 (d : Nat) (n0 y0 x1 : Int) (m : jM) (Q : Int → jM → Prop)
    (h : aJ7_fill_53178_5 d n0 y0 x1 0 n0 m Q) :
    jK (d + 1) zJ7_fill_53178 [jY 0 n0 y0, jI x1] m Q := jWp_sn0 [(5, [true, true, true, true])] jcJ7_fill_53178 6 rfl h
set_option maxRecDepth 100000 in
theorem gJ7_fill_53178_5 (d : Nat) (n0 y0 x1 x2 x3 : Int) (m : jM) (Q : Int → jM → Prop)
    (h : (x2 < x3 → ((0 : Int) ≤ x2 ∧ (x2 : Int) < n0) ∧ aJ7_fill_53178_5 d n0 y0 x1 (w32 (x2 + 1)) x3 (jUp m y0 x2 x1) Q) ∧ (¬ x2 < x3 → Q 0 m)) :
    aJ7_fill_53178_5 d n0 y0 x1 x2 x3 m Q := jWp_snd [(5, [true, true, true, true])] jcJ7_fill_53178 10 rfl h
def aL_law_18 (d : Nat) (n0 y0 p1 p2 x3 : Int) (m : jM) (Q : Int → jM → Prop) : Prop := jA (d + 1) zL_law 18 [some (jY 4 n0 y0), some (jO 10 p1), some (jO 11 p2), some (jI x3)] [] m Q
set_option maxRecDepth 100000 in
theorem gL_law (d : Nat) (n0 y0 : Int) (m : jM) (Q : Int → jM → Prop)
    (h : (m (-3) 0 < m (-2) (-7) ∧ jKd (m (-3) 0) = 10) ∧ (jNw m) (-3) 0 + 102 ≤ (jNw m) (-2) (-7) ∧ jK d zX10_init [jO 10 (m (-3) 0)] (jLim (jNw m) zX10_init) (fun v1 m1 => ((jUp m1 (-2) (-7) ((jNw m) (-2) (-7))) (-3) 0 < (jUp m1 (-2) (-7) ((jNw m) (-2) (-7))) (-2) (-7) ∧ jKd ((jUp m1 (-2) (-7) ((jNw m) (-2) (-7))) (-3) 0) = 11) ∧ (jNw (jUp m1 (-2) (-7) ((jNw m) (-2) (-7)))) (-3) 0 + 56 ≤ (jNw (jUp m1 (-2) (-7) ((jNw m) (-2) (-7)))) (-2) (-7) ∧ jK d zX11_init [jO 11 ((jUp m1 (-2) (-7) ((jNw m) (-2) (-7))) (-3) 0)] (jLim (jNw (jUp m1 (-2) (-7) ((jNw m) (-2) (-7)))) zX11_init) (fun v2 m2 => aL_law_18 d n0 y0 (m (-3) 0) ((jUp m1 (-2) (-7) ((jNw m) (-2) (-7))) (-3) 0) 0 (jUp m2 (-2) (-7) ((jNw (jUp m1 (-2) (-7) ((jNw m) (-2) (-7)))) (-2) (-7))) Q))) :
    jK (d + 1) zL_law [jY 4 n0 y0] m Q := jWp_sn0 [(18, [true, true, true, true])] jcL_law 11 rfl h
set_option maxRecDepth 100000 in
theorem gL_law_18 (d : Nat) (n0 y0 p1 p2 x3 : Int) (m : jM) (Q : Int → jM → Prop)
    (h : ((w32 (n0 - 6)) < x3 → m (-3) 0 = m (-2) (-7) ∧ Q 1 m) ∧ (¬ (w32 (n0 - 6)) < x3 → ((0 : Int) ≤ x3 ∧ (x3 : Int) < n0) ∧ ((iAnd (m y0 x3) 63) = 0 + 0 → ((0 : Int) ≤ (w32 (x3 + 1)) ∧ ((w32 (x3 + 1)) : Int) < n0) ∧ ((0 : Int) ≤ (w32 (x3 + 2)) ∧ ((w32 (x3 + 2)) : Int) < n0) ∧ ((0 : Int) ≤ (w32 (x3 + 3)) ∧ ((w32 (x3 + 3)) : Int) < n0) ∧ jFull m ∧ jK d zX10_here [jO 10 p1, jI (m y0 (w32 (x3 + 1))), jI (m y0 (w32 (x3 + 2))), jI (m y0 (w32 (x3 + 3)))] m (fun v1 m1 => jFull m1 → ((0 : Int) ≤ (w32 (x3 + 1)) ∧ ((w32 (x3 + 1)) : Int) < n0) ∧ ((0 : Int) ≤ (w32 (x3 + 2)) ∧ ((w32 (x3 + 2)) : Int) < n0) ∧ ((0 : Int) ≤ (w32 (x3 + 3)) ∧ ((w32 (x3 + 3)) : Int) < n0) ∧ jFull m1 ∧ jK d zX11_here [jO 11 p2, jI (m1 y0 (w32 (x3 + 1))), jI (m1 y0 (w32 (x3 + 2))), jI (m1 y0 (w32 (x3 + 3)))] m1 (fun v2 m2 => jFull m2 → (v1 = v2 → aL_law_18 d n0 y0 p1 p2 (w32 (x3 + 6)) m2 Q) ∧ (¬ v1 = v2 → m2 (-3) 0 = m2 (-2) (-7) ∧ Q 0 m2)))) ∧ ((iAnd (m y0 x3) 63) = 0 + 1 → ((0 : Int) ≤ (w32 (x3 + 1)) ∧ ((w32 (x3 + 1)) : Int) < n0) ∧ ((0 : Int) ≤ (w32 (x3 + 2)) ∧ ((w32 (x3 + 2)) : Int) < n0) ∧ ((0 : Int) ≤ (w32 (x3 + 3)) ∧ ((w32 (x3 + 3)) : Int) < n0) ∧ ((0 : Int) ≤ (w32 (x3 + 4)) ∧ ((w32 (x3 + 4)) : Int) < n0) ∧ jFull m ∧ jK d zX10_trait [jO 10 p1, jI (m y0 (w32 (x3 + 1))), jI (m y0 (w32 (x3 + 2))), jI (m y0 (w32 (x3 + 3))), jI (m y0 (w32 (x3 + 4)))] m (fun v3 m3 => jFull m3 → ((0 : Int) ≤ (w32 (x3 + 1)) ∧ ((w32 (x3 + 1)) : Int) < n0) ∧ ((0 : Int) ≤ (w32 (x3 + 2)) ∧ ((w32 (x3 + 2)) : Int) < n0) ∧ ((0 : Int) ≤ (w32 (x3 + 3)) ∧ ((w32 (x3 + 3)) : Int) < n0) ∧ ((0 : Int) ≤ (w32 (x3 + 4)) ∧ ((w32 (x3 + 4)) : Int) < n0) ∧ jFull m3 ∧ jK d zX11_trait [jO 11 p2, jI (m3 y0 (w32 (x3 + 1))), jI (m3 y0 (w32 (x3 + 2))), jI (m3 y0 (w32 (x3 + 3))), jI (m3 y0 (w32 (x3 + 4)))] m3 (fun v4 m4 => jFull m4 → (v3 = v4 → aL_law_18 d n0 y0 p1 p2 (w32 (x3 + 6)) m4 Q) ∧ (¬ v3 = v4 → m4 (-3) 0 = m4 (-2) (-7) ∧ Q 0 m4)))) ∧ ((iAnd (m y0 x3) 63) = 0 + 2 → ((0 : Int) ≤ (w32 (x3 + 1)) ∧ ((w32 (x3 + 1)) : Int) < n0) ∧ ((0 : Int) ≤ (w32 (x3 + 2)) ∧ ((w32 (x3 + 2)) : Int) < n0) ∧ ((0 : Int) ≤ (w32 (x3 + 3)) ∧ ((w32 (x3 + 3)) : Int) < n0) ∧ ((0 : Int) ≤ (w32 (x3 + 4)) ∧ ((w32 (x3 + 4)) : Int) < n0) ∧ jFull m ∧ jK d zX10_tell [jO 10 p1, jI (m y0 (w32 (x3 + 1))), jI (m y0 (w32 (x3 + 2))), jL (lOr (lShl (m y0 (w32 (x3 + 3))) 32) (lAnd (m y0 (w32 (x3 + 4))) 4294967295))] m (fun v5 m5 => jFull m5 → ((0 : Int) ≤ (w32 (x3 + 1)) ∧ ((w32 (x3 + 1)) : Int) < n0) ∧ ((0 : Int) ≤ (w32 (x3 + 2)) ∧ ((w32 (x3 + 2)) : Int) < n0) ∧ ((0 : Int) ≤ (w32 (x3 + 3)) ∧ ((w32 (x3 + 3)) : Int) < n0) ∧ ((0 : Int) ≤ (w32 (x3 + 4)) ∧ ((w32 (x3 + 4)) : Int) < n0) ∧ jFull m5 ∧ jK d zX11_tell [jO 11 p2, jI (m5 y0 (w32 (x3 + 1))), jI (m5 y0 (w32 (x3 + 2))), jL (lOr (lShl (m5 y0 (w32 (x3 + 3))) 32) (lAnd (m5 y0 (w32 (x3 + 4))) 4294967295))] m5 (fun v6 m6 => jFull m6 → (v5 = v6 → aL_law_18 d n0 y0 p1 p2 (w32 (x3 + 6)) m6 Q) ∧ (¬ v5 = v6 → m6 (-3) 0 = m6 (-2) (-7) ∧ Q 0 m6)))) ∧ ((iAnd (m y0 x3) 63) = 0 + 3 → ((0 : Int) ≤ (w32 (x3 + 1)) ∧ ((w32 (x3 + 1)) : Int) < n0) ∧ ((0 : Int) ≤ (w32 (x3 + 2)) ∧ ((w32 (x3 + 2)) : Int) < n0) ∧ jFull m ∧ jK d zX10_burden [jO 10 p1, jI (m y0 (w32 (x3 + 1))), jI (m y0 (w32 (x3 + 2)))] m (fun v7 m7 => jFull m7 → ((0 : Int) ≤ (w32 (x3 + 1)) ∧ ((w32 (x3 + 1)) : Int) < n0) ∧ ((0 : Int) ≤ (w32 (x3 + 2)) ∧ ((w32 (x3 + 2)) : Int) < n0) ∧ jFull m7 ∧ jK d zX11_burden [jO 11 p2, jI (m7 y0 (w32 (x3 + 1))), jI (m7 y0 (w32 (x3 + 2)))] m7 (fun v8 m8 => jFull m8 → (v7 = v8 → aL_law_18 d n0 y0 p1 p2 (w32 (x3 + 6)) m8 Q) ∧ (¬ v7 = v8 → m8 (-3) 0 = m8 (-2) (-7) ∧ Q 0 m8)))) ∧ ((iAnd (m y0 x3) 63) = 0 + 4 → ((0 : Int) ≤ (w32 (x3 + 1)) ∧ ((w32 (x3 + 1)) : Int) < n0) ∧ ((0 : Int) ≤ (w32 (x3 + 2)) ∧ ((w32 (x3 + 2)) : Int) < n0) ∧ ((0 : Int) ≤ (w32 (x3 + 3)) ∧ ((w32 (x3 + 3)) : Int) < n0) ∧ jFull m ∧ jK d zX10_mark [jO 10 p1, jI (m y0 (w32 (x3 + 1))), jI (m y0 (w32 (x3 + 2))), jI (m y0 (w32 (x3 + 3)))] m (fun v9 m9 => jFull m9 → ((0 : Int) ≤ (w32 (x3 + 1)) ∧ ((w32 (x3 + 1)) : Int) < n0) ∧ ((0 : Int) ≤ (w32 (x3 + 2)) ∧ ((w32 (x3 + 2)) : Int) < n0) ∧ ((0 : Int) ≤ (w32 (x3 + 3)) ∧ ((w32 (x3 + 3)) : Int) < n0) ∧ jFull m9 ∧ jK d zX11_mark [jO 11 p2, jI (m9 y0 (w32 (x3 + 1))), jI (m9 y0 (w32 (x3 + 2))), jI (m9 y0 (w32 (x3 + 3)))] m9 (fun v10 m10 => jFull m10 → (v9 = v10 → aL_law_18 d n0 y0 p1 p2 (w32 (x3 + 6)) m10 Q) ∧ (¬ v9 = v10 → m10 (-3) 0 = m10 (-2) (-7) ∧ Q 0 m10)))) ∧ ((iAnd (m y0 x3) 63) = 0 + 5 → ((0 : Int) ≤ (w32 (x3 + 1)) ∧ ((w32 (x3 + 1)) : Int) < n0) ∧ ((0 : Int) ≤ (w32 (x3 + 2)) ∧ ((w32 (x3 + 2)) : Int) < n0) ∧ jFull m ∧ jK d zX10_open [jO 10 p1, jI (m y0 (w32 (x3 + 1))), jI (m y0 (w32 (x3 + 2)))] m (fun v11 m11 => jFull m11 → ((0 : Int) ≤ (w32 (x3 + 1)) ∧ ((w32 (x3 + 1)) : Int) < n0) ∧ ((0 : Int) ≤ (w32 (x3 + 2)) ∧ ((w32 (x3 + 2)) : Int) < n0) ∧ jFull m11 ∧ jK d zX11_open [jO 11 p2, jI (m11 y0 (w32 (x3 + 1))), jI (m11 y0 (w32 (x3 + 2)))] m11 (fun v12 m12 => jFull m12 → (v11 = v12 → aL_law_18 d n0 y0 p1 p2 (w32 (x3 + 6)) m12 Q) ∧ (¬ v11 = v12 → m12 (-3) 0 = m12 (-2) (-7) ∧ Q 0 m12)))) ∧ ((iAnd (m y0 x3) 63) = 0 + 6 → ((0 : Int) ≤ (w32 (x3 + 1)) ∧ ((w32 (x3 + 1)) : Int) < n0) ∧ jFull m ∧ jK d zX10_feed [jO 10 p1, jI (m y0 (w32 (x3 + 1)))] m (fun v13 m13 => jFull m13 → ((0 : Int) ≤ (w32 (x3 + 1)) ∧ ((w32 (x3 + 1)) : Int) < n0) ∧ jFull m13 ∧ jK d zX11_feed [jO 11 p2, jI (m13 y0 (w32 (x3 + 1)))] m13 (fun v14 m14 => jFull m14 → (v13 = v14 → aL_law_18 d n0 y0 p1 p2 (w32 (x3 + 6)) m14 Q) ∧ (¬ v13 = v14 → m14 (-3) 0 = m14 (-2) (-7) ∧ Q 0 m14)))) ∧ ((iAnd (m y0 x3) 63) = 0 + 7 → ((0 : Int) ≤ (w32 (x3 + 1)) ∧ ((w32 (x3 + 1)) : Int) < n0) ∧ jFull m ∧ jK d zX10_text [jO 10 p1, jI (m y0 (w32 (x3 + 1)))] m (fun v15 m15 => jFull m15 → ((0 : Int) ≤ (w32 (x3 + 1)) ∧ ((w32 (x3 + 1)) : Int) < n0) ∧ jFull m15 ∧ jK d zX11_text [jO 11 p2, jI (m15 y0 (w32 (x3 + 1)))] m15 (fun v16 m16 => jFull m16 → (v15 = v16 → aL_law_18 d n0 y0 p1 p2 (w32 (x3 + 6)) m16 Q) ∧ (¬ v15 = v16 → m16 (-3) 0 = m16 (-2) (-7) ∧ Q 0 m16)))) ∧ ((iAnd (m y0 x3) 63) = 0 + 8 → ((0 : Int) ≤ (w32 (x3 + 1)) ∧ ((w32 (x3 + 1)) : Int) < n0) ∧ jFull m ∧ jK d zX10_empty [jO 10 p1, jI (m y0 (w32 (x3 + 1)))] m (fun v17 m17 => jFull m17 → ((0 : Int) ≤ (w32 (x3 + 1)) ∧ ((w32 (x3 + 1)) : Int) < n0) ∧ jFull m17 ∧ jK d zX11_empty [jO 11 p2, jI (m17 y0 (w32 (x3 + 1)))] m17 (fun v18 m18 => jFull m18 → (v17 = v18 → aL_law_18 d n0 y0 p1 p2 (w32 (x3 + 6)) m18 Q) ∧ (¬ v17 = v18 → m18 (-3) 0 = m18 (-2) (-7) ∧ Q 0 m18)))) ∧ ((iAnd (m y0 x3) 63) = 0 + 9 → ((0 : Int) ≤ (w32 (x3 + 1)) ∧ ((w32 (x3 + 1)) : Int) < n0) ∧ ((0 : Int) ≤ (w32 (x3 + 2)) ∧ ((w32 (x3 + 2)) : Int) < n0) ∧ jFull m ∧ jK d zX10_told [jO 10 p1, jI (m y0 (w32 (x3 + 1))), jI (m y0 (w32 (x3 + 2)))] m (fun v19 m19 => jFull m19 → ((0 : Int) ≤ (w32 (x3 + 1)) ∧ ((w32 (x3 + 1)) : Int) < n0) ∧ ((0 : Int) ≤ (w32 (x3 + 2)) ∧ ((w32 (x3 + 2)) : Int) < n0) ∧ jFull m19 ∧ jK d zX11_told [jO 11 p2, jI (m19 y0 (w32 (x3 + 1))), jI (m19 y0 (w32 (x3 + 2)))] m19 (fun v20 m20 => jFull m20 → (v19 = v20 → aL_law_18 d n0 y0 p1 p2 (w32 (x3 + 6)) m20 Q) ∧ (¬ v19 = v20 → m20 (-3) 0 = m20 (-2) (-7) ∧ Q 0 m20)))) ∧ ((iAnd (m y0 x3) 63) = 0 + 10 → ((0 : Int) ≤ (w32 (x3 + 1)) ∧ ((w32 (x3 + 1)) : Int) < n0) ∧ ((0 : Int) ≤ (w32 (x3 + 2)) ∧ ((w32 (x3 + 2)) : Int) < n0) ∧ ((0 : Int) ≤ (w32 (x3 + 3)) ∧ ((w32 (x3 + 3)) : Int) < n0) ∧ jFull m ∧ jK d zX10_value [jO 10 p1, jI (m y0 (w32 (x3 + 1))), jI (m y0 (w32 (x3 + 2))), jI (m y0 (w32 (x3 + 3)))] m (fun v21 m21 => jFull m21 → ((0 : Int) ≤ (w32 (x3 + 1)) ∧ ((w32 (x3 + 1)) : Int) < n0) ∧ ((0 : Int) ≤ (w32 (x3 + 2)) ∧ ((w32 (x3 + 2)) : Int) < n0) ∧ ((0 : Int) ≤ (w32 (x3 + 3)) ∧ ((w32 (x3 + 3)) : Int) < n0) ∧ jFull m21 ∧ jK d zX11_value [jO 11 p2, jI (m21 y0 (w32 (x3 + 1))), jI (m21 y0 (w32 (x3 + 2))), jI (m21 y0 (w32 (x3 + 3)))] m21 (fun v22 m22 => jFull m22 → (v21 = v22 → aL_law_18 d n0 y0 p1 p2 (w32 (x3 + 6)) m22 Q) ∧ (¬ v21 = v22 → m22 (-3) 0 = m22 (-2) (-7) ∧ Q 0 m22)))) ∧ ((iAnd (m y0 x3) 63) = 0 + 11 → ((0 : Int) ≤ (w32 (x3 + 1)) ∧ ((w32 (x3 + 1)) : Int) < n0) ∧ ((0 : Int) ≤ (w32 (x3 + 2)) ∧ ((w32 (x3 + 2)) : Int) < n0) ∧ ((0 : Int) ≤ (w32 (x3 + 3)) ∧ ((w32 (x3 + 3)) : Int) < n0) ∧ jFull m ∧ jK d zX10_why [jO 10 p1, jI (m y0 (w32 (x3 + 1))), jI (m y0 (w32 (x3 + 2))), jI (m y0 (w32 (x3 + 3)))] m (fun v23 m23 => jFull m23 → ((0 : Int) ≤ (w32 (x3 + 1)) ∧ ((w32 (x3 + 1)) : Int) < n0) ∧ ((0 : Int) ≤ (w32 (x3 + 2)) ∧ ((w32 (x3 + 2)) : Int) < n0) ∧ ((0 : Int) ≤ (w32 (x3 + 3)) ∧ ((w32 (x3 + 3)) : Int) < n0) ∧ jFull m23 ∧ jK d zX11_why [jO 11 p2, jI (m23 y0 (w32 (x3 + 1))), jI (m23 y0 (w32 (x3 + 2))), jI (m23 y0 (w32 (x3 + 3)))] m23 (fun v24 m24 => jFull m24 → (v23 = v24 → aL_law_18 d n0 y0 p1 p2 (w32 (x3 + 6)) m24 Q) ∧ (¬ v23 = v24 → m24 (-3) 0 = m24 (-2) (-7) ∧ Q 0 m24)))) ∧ ((iAnd (m y0 x3) 63) = 0 + 12 → jFull m ∧ jK d zX10_solve [jO 10 p1] m (fun v25 m25 => jFull m25 → jFull m25 ∧ jK d zX11_solve [jO 11 p2] m25 (fun v26 m26 => jFull m26 → (v25 = v26 → aL_law_18 d n0 y0 p1 p2 (w32 (x3 + 6)) m26 Q) ∧ (¬ v25 = v26 → m26 (-3) 0 = m26 (-2) (-7) ∧ Q 0 m26)))) ∧ ((iAnd (m y0 x3) 63) = 0 + 13 → ((0 : Int) ≤ (w32 (x3 + 1)) ∧ ((w32 (x3 + 1)) : Int) < n0) ∧ ((0 : Int) ≤ (w32 (x3 + 2)) ∧ ((w32 (x3 + 2)) : Int) < n0) ∧ jFull m ∧ jK d zX10_round [jO 10 p1, jI (m y0 (w32 (x3 + 1))), jI (m y0 (w32 (x3 + 2)))] m (fun v27 m27 => jFull m27 → ((0 : Int) ≤ (w32 (x3 + 1)) ∧ ((w32 (x3 + 1)) : Int) < n0) ∧ ((0 : Int) ≤ (w32 (x3 + 2)) ∧ ((w32 (x3 + 2)) : Int) < n0) ∧ jFull m27 ∧ jK d zX11_round [jO 11 p2, jI (m27 y0 (w32 (x3 + 1))), jI (m27 y0 (w32 (x3 + 2)))] m27 (fun v28 m28 => jFull m28 → (v27 = v28 → aL_law_18 d n0 y0 p1 p2 (w32 (x3 + 6)) m28 Q) ∧ (¬ v27 = v28 → m28 (-3) 0 = m28 (-2) (-7) ∧ Q 0 m28)))) ∧ ((iAnd (m y0 x3) 63) = 0 + 14 → ((0 : Int) ≤ (w32 (x3 + 1)) ∧ ((w32 (x3 + 1)) : Int) < n0) ∧ ((0 : Int) ≤ (w32 (x3 + 2)) ∧ ((w32 (x3 + 2)) : Int) < n0) ∧ ((0 : Int) ≤ (w32 (x3 + 3)) ∧ ((w32 (x3 + 3)) : Int) < n0) ∧ jFull m ∧ jK d zX10_price [jO 10 p1, jI (m y0 (w32 (x3 + 1))), jI (m y0 (w32 (x3 + 2))), jI (m y0 (w32 (x3 + 3)))] m (fun v29 m29 => jFull m29 → ((0 : Int) ≤ (w32 (x3 + 1)) ∧ ((w32 (x3 + 1)) : Int) < n0) ∧ ((0 : Int) ≤ (w32 (x3 + 2)) ∧ ((w32 (x3 + 2)) : Int) < n0) ∧ ((0 : Int) ≤ (w32 (x3 + 3)) ∧ ((w32 (x3 + 3)) : Int) < n0) ∧ jFull m29 ∧ jK d zX11_price [jO 11 p2, jI (m29 y0 (w32 (x3 + 1))), jI (m29 y0 (w32 (x3 + 2))), jI (m29 y0 (w32 (x3 + 3)))] m29 (fun v30 m30 => jFull m30 → (v29 = v30 → aL_law_18 d n0 y0 p1 p2 (w32 (x3 + 6)) m30 Q) ∧ (¬ v29 = v30 → m30 (-3) 0 = m30 (-2) (-7) ∧ Q 0 m30)))) ∧ ((iAnd (m y0 x3) 63) = 0 + 15 → jFull m ∧ jK d zX10_total [jO 10 p1] m (fun v31 m31 => jFull m31 → jFull m31 ∧ jK d zX11_total [jO 11 p2] m31 (fun v32 m32 => jFull m32 → (v31 = v32 → aL_law_18 d n0 y0 p1 p2 (w32 (x3 + 6)) m32 Q) ∧ (¬ v31 = v32 → m32 (-3) 0 = m32 (-2) (-7) ∧ Q 0 m32)))) ∧ ((iAnd (m y0 x3) 63) = 0 + 16 → jFull m ∧ jK d zX10_many [jO 10 p1] m (fun v33 m33 => jFull m33 → jFull m33 ∧ jK d zX11_many [jO 11 p2] m33 (fun v34 m34 => jFull m34 → (v33 = v34 → aL_law_18 d n0 y0 p1 p2 (w32 (x3 + 6)) m34 Q) ∧ (¬ v33 = v34 → m34 (-3) 0 = m34 (-2) (-7) ∧ Q 0 m34)))) ∧ ((iAnd (m y0 x3) 63) = 0 + 17 → ((0 : Int) ≤ (w32 (x3 + 1)) ∧ ((w32 (x3 + 1)) : Int) < n0) ∧ ((0 : Int) ≤ (w32 (x3 + 2)) ∧ ((w32 (x3 + 2)) : Int) < n0) ∧ jFull m ∧ jK d zX10_best [jO 10 p1, jI (m y0 (w32 (x3 + 1))), jI (m y0 (w32 (x3 + 2)))] m (fun v35 m35 => jFull m35 → ((0 : Int) ≤ (w32 (x3 + 1)) ∧ ((w32 (x3 + 1)) : Int) < n0) ∧ ((0 : Int) ≤ (w32 (x3 + 2)) ∧ ((w32 (x3 + 2)) : Int) < n0) ∧ jFull m35 ∧ jK d zX11_best [jO 11 p2, jI (m35 y0 (w32 (x3 + 1))), jI (m35 y0 (w32 (x3 + 2)))] m35 (fun v36 m36 => jFull m36 → (v35 = v36 → aL_law_18 d n0 y0 p1 p2 (w32 (x3 + 6)) m36 Q) ∧ (¬ v35 = v36 → m36 (-3) 0 = m36 (-2) (-7) ∧ Q 0 m36)))) ∧ ((iAnd (m y0 x3) 63) = 0 + 18 → ((0 : Int) ≤ (w32 (x3 + 1)) ∧ ((w32 (x3 + 1)) : Int) < n0) ∧ ((0 : Int) ≤ (w32 (x3 + 2)) ∧ ((w32 (x3 + 2)) : Int) < n0) ∧ jFull m ∧ jK d zX10_kind [jO 10 p1, jI (m y0 (w32 (x3 + 1))), jI (m y0 (w32 (x3 + 2)))] m (fun v37 m37 => jFull m37 → ((0 : Int) ≤ (w32 (x3 + 1)) ∧ ((w32 (x3 + 1)) : Int) < n0) ∧ ((0 : Int) ≤ (w32 (x3 + 2)) ∧ ((w32 (x3 + 2)) : Int) < n0) ∧ jFull m37 ∧ jK d zX11_kind [jO 11 p2, jI (m37 y0 (w32 (x3 + 1))), jI (m37 y0 (w32 (x3 + 2)))] m37 (fun v38 m38 => jFull m38 → (v37 = v38 → aL_law_18 d n0 y0 p1 p2 (w32 (x3 + 6)) m38 Q) ∧ (¬ v37 = v38 → m38 (-3) 0 = m38 (-2) (-7) ∧ Q 0 m38)))) ∧ ((iAnd (m y0 x3) 63) = 0 + 19 → ((0 : Int) ≤ (w32 (x3 + 1)) ∧ ((w32 (x3 + 1)) : Int) < n0) ∧ ((0 : Int) ≤ (w32 (x3 + 2)) ∧ ((w32 (x3 + 2)) : Int) < n0) ∧ ((0 : Int) ≤ (w32 (x3 + 3)) ∧ ((w32 (x3 + 3)) : Int) < n0) ∧ jFull m ∧ jK d zX10_room [jO 10 p1, jI (m y0 (w32 (x3 + 1))), jI (m y0 (w32 (x3 + 2))), jI (m y0 (w32 (x3 + 3)))] m (fun v39 m39 => jFull m39 → ((0 : Int) ≤ (w32 (x3 + 1)) ∧ ((w32 (x3 + 1)) : Int) < n0) ∧ ((0 : Int) ≤ (w32 (x3 + 2)) ∧ ((w32 (x3 + 2)) : Int) < n0) ∧ ((0 : Int) ≤ (w32 (x3 + 3)) ∧ ((w32 (x3 + 3)) : Int) < n0) ∧ jFull m39 ∧ jK d zX11_room [jO 11 p2, jI (m39 y0 (w32 (x3 + 1))), jI (m39 y0 (w32 (x3 + 2))), jI (m39 y0 (w32 (x3 + 3)))] m39 (fun v40 m40 => jFull m40 → (v39 = v40 → aL_law_18 d n0 y0 p1 p2 (w32 (x3 + 6)) m40 Q) ∧ (¬ v39 = v40 → m40 (-3) 0 = m40 (-2) (-7) ∧ Q 0 m40)))) ∧ ((iAnd (m y0 x3) 63) = 0 + 20 → ((0 : Int) ≤ (w32 (x3 + 1)) ∧ ((w32 (x3 + 1)) : Int) < n0) ∧ ((0 : Int) ≤ (w32 (x3 + 2)) ∧ ((w32 (x3 + 2)) : Int) < n0) ∧ jFull m ∧ jK d zX10_next [jO 10 p1, jI (m y0 (w32 (x3 + 1))), jI (m y0 (w32 (x3 + 2)))] m (fun v41 m41 => jFull m41 → ((0 : Int) ≤ (w32 (x3 + 1)) ∧ ((w32 (x3 + 1)) : Int) < n0) ∧ ((0 : Int) ≤ (w32 (x3 + 2)) ∧ ((w32 (x3 + 2)) : Int) < n0) ∧ jFull m41 ∧ jK d zX11_next_ [jO 11 p2, jI (m41 y0 (w32 (x3 + 1))), jI (m41 y0 (w32 (x3 + 2)))] m41 (fun v42 m42 => jFull m42 → (v41 = v42 → aL_law_18 d n0 y0 p1 p2 (w32 (x3 + 6)) m42 Q) ∧ (¬ v41 = v42 → m42 (-3) 0 = m42 (-2) (-7) ∧ Q 0 m42)))) ∧ ((iAnd (m y0 x3) 63) = 0 + 21 → ((0 : Int) ≤ (w32 (x3 + 1)) ∧ ((w32 (x3 + 1)) : Int) < n0) ∧ jFull m ∧ jK d zX10_fair [jO 10 p1, jI (m y0 (w32 (x3 + 1)))] m (fun v43 m43 => jFull m43 → ((0 : Int) ≤ (w32 (x3 + 1)) ∧ ((w32 (x3 + 1)) : Int) < n0) ∧ jFull m43 ∧ jK d zX11_fair [jO 11 p2, jI (m43 y0 (w32 (x3 + 1)))] m43 (fun v44 m44 => jFull m44 → (v43 = v44 → aL_law_18 d n0 y0 p1 p2 (w32 (x3 + 6)) m44 Q) ∧ (¬ v43 = v44 → m44 (-3) 0 = m44 (-2) (-7) ∧ Q 0 m44)))) ∧ ((iAnd (m y0 x3) 63) = 0 + 22 → ((0 : Int) ≤ (w32 (x3 + 1)) ∧ ((w32 (x3 + 1)) : Int) < n0) ∧ jFull m ∧ jK d zX10_days [jO 10 p1, jI (m y0 (w32 (x3 + 1)))] m (fun v45 m45 => jFull m45 → ((0 : Int) ≤ (w32 (x3 + 1)) ∧ ((w32 (x3 + 1)) : Int) < n0) ∧ jFull m45 ∧ jK d zX11_days [jO 11 p2, jI (m45 y0 (w32 (x3 + 1)))] m45 (fun v46 m46 => jFull m46 → (v45 = v46 → aL_law_18 d n0 y0 p1 p2 (w32 (x3 + 6)) m46 Q) ∧ (¬ v45 = v46 → m46 (-3) 0 = m46 (-2) (-7) ∧ Q 0 m46)))) ∧ ((iAnd (m y0 x3) 63) = 0 + 23 → ((0 : Int) ≤ (w32 (x3 + 1)) ∧ ((w32 (x3 + 1)) : Int) < n0) ∧ ((0 : Int) ≤ (w32 (x3 + 2)) ∧ ((w32 (x3 + 2)) : Int) < n0) ∧ jFull m ∧ jK d zX10_day [jO 10 p1, jI (m y0 (w32 (x3 + 1))), jI (m y0 (w32 (x3 + 2)))] m (fun v47 m47 => jFull m47 → ((0 : Int) ≤ (w32 (x3 + 1)) ∧ ((w32 (x3 + 1)) : Int) < n0) ∧ ((0 : Int) ≤ (w32 (x3 + 2)) ∧ ((w32 (x3 + 2)) : Int) < n0) ∧ jFull m47 ∧ jK d zX11_day [jO 11 p2, jI (m47 y0 (w32 (x3 + 1))), jI (m47 y0 (w32 (x3 + 2)))] m47 (fun v48 m48 => jFull m48 → (v47 = v48 → aL_law_18 d n0 y0 p1 p2 (w32 (x3 + 6)) m48 Q) ∧ (¬ v47 = v48 → m48 (-3) 0 = m48 (-2) (-7) ∧ Q 0 m48)))) ∧ ((iAnd (m y0 x3) 63) = 0 + 24 → ((0 : Int) ≤ (w32 (x3 + 1)) ∧ ((w32 (x3 + 1)) : Int) < n0) ∧ jFull m ∧ jK d zX10_lack [jO 10 p1, jI (m y0 (w32 (x3 + 1)))] m (fun v49 m49 => jFull m49 → ((0 : Int) ≤ (w32 (x3 + 1)) ∧ ((w32 (x3 + 1)) : Int) < n0) ∧ jFull m49 ∧ jK d zX11_lack [jO 11 p2, jI (m49 y0 (w32 (x3 + 1)))] m49 (fun v50 m50 => jFull m50 → (v49 = v50 → aL_law_18 d n0 y0 p1 p2 (w32 (x3 + 6)) m50 Q) ∧ (¬ v49 = v50 → m50 (-3) 0 = m50 (-2) (-7) ∧ Q 0 m50)))) ∧ ((iAnd (m y0 x3) 63) = 0 + 25 → ((0 : Int) ≤ (w32 (x3 + 1)) ∧ ((w32 (x3 + 1)) : Int) < n0) ∧ ((0 : Int) ≤ (w32 (x3 + 2)) ∧ ((w32 (x3 + 2)) : Int) < n0) ∧ jFull m ∧ jK d zX10_without [jO 10 p1, jI (m y0 (w32 (x3 + 1))), jI (m y0 (w32 (x3 + 2)))] m (fun v51 m51 => jFull m51 → ((0 : Int) ≤ (w32 (x3 + 1)) ∧ ((w32 (x3 + 1)) : Int) < n0) ∧ ((0 : Int) ≤ (w32 (x3 + 2)) ∧ ((w32 (x3 + 2)) : Int) < n0) ∧ jFull m51 ∧ jK d zX11_without [jO 11 p2, jI (m51 y0 (w32 (x3 + 1))), jI (m51 y0 (w32 (x3 + 2)))] m51 (fun v52 m52 => jFull m52 → (v51 = v52 → aL_law_18 d n0 y0 p1 p2 (w32 (x3 + 6)) m52 Q) ∧ (¬ v51 = v52 → m52 (-3) 0 = m52 (-2) (-7) ∧ Q 0 m52)))) ∧ ((iAnd (m y0 x3) 63) = 0 + 26 → ((0 : Int) ≤ (w32 (x3 + 1)) ∧ ((w32 (x3 + 1)) : Int) < n0) ∧ ((0 : Int) ≤ (w32 (x3 + 2)) ∧ ((w32 (x3 + 2)) : Int) < n0) ∧ jFull m ∧ jK d zX10_tells [jO 10 p1, jI (m y0 (w32 (x3 + 1))), jI (m y0 (w32 (x3 + 2)))] m (fun v53 m53 => jFull m53 → ((0 : Int) ≤ (w32 (x3 + 1)) ∧ ((w32 (x3 + 1)) : Int) < n0) ∧ ((0 : Int) ≤ (w32 (x3 + 2)) ∧ ((w32 (x3 + 2)) : Int) < n0) ∧ jFull m53 ∧ jK d zX11_tells [jO 11 p2, jI (m53 y0 (w32 (x3 + 1))), jI (m53 y0 (w32 (x3 + 2)))] m53 (fun v54 m54 => jFull m54 → (v53 = v54 → aL_law_18 d n0 y0 p1 p2 (w32 (x3 + 6)) m54 Q) ∧ (¬ v53 = v54 → m54 (-3) 0 = m54 (-2) (-7) ∧ Q 0 m54)))) ∧ ((iAnd (m y0 x3) 63) = 0 + 27 → ((0 : Int) ≤ (w32 (x3 + 1)) ∧ ((w32 (x3 + 1)) : Int) < n0) ∧ ((0 : Int) ≤ (w32 (x3 + 2)) ∧ ((w32 (x3 + 2)) : Int) < n0) ∧ jFull m ∧ jK d zX10_film [jO 10 p1, jI (m y0 (w32 (x3 + 1))), jI (m y0 (w32 (x3 + 2)))] m (fun v55 m55 => jFull m55 → ((0 : Int) ≤ (w32 (x3 + 1)) ∧ ((w32 (x3 + 1)) : Int) < n0) ∧ ((0 : Int) ≤ (w32 (x3 + 2)) ∧ ((w32 (x3 + 2)) : Int) < n0) ∧ jFull m55 ∧ jK d zX11_film [jO 11 p2, jI (m55 y0 (w32 (x3 + 1))), jI (m55 y0 (w32 (x3 + 2)))] m55 (fun v56 m56 => jFull m56 → (v55 = v56 → aL_law_18 d n0 y0 p1 p2 (w32 (x3 + 6)) m56 Q) ∧ (¬ v55 = v56 → m56 (-3) 0 = m56 (-2) (-7) ∧ Q 0 m56)))) ∧ ((iAnd (m y0 x3) 63) = 0 + 28 → jFull m ∧ jK d zX10_image [jO 10 p1] m (fun v57 m57 => jFull m57 → jFull m57 ∧ jK d zX11_image [jO 11 p2] m57 (fun v58 m58 => jFull m58 → (v57 = v58 → aL_law_18 d n0 y0 p1 p2 (w32 (x3 + 6)) m58 Q) ∧ (¬ v57 = v58 → m58 (-3) 0 = m58 (-2) (-7) ∧ Q 0 m58)))) ∧ ((iAnd (m y0 x3) 63) = 0 + 29 → jFull m ∧ jK d zX10_back [jO 10 p1] m (fun v59 m59 => jFull m59 → jFull m59 ∧ jK d zX11_back [jO 11 p2] m59 (fun v60 m60 => jFull m60 → (v59 = v60 → aL_law_18 d n0 y0 p1 p2 (w32 (x3 + 6)) m60 Q) ∧ (¬ v59 = v60 → m60 (-3) 0 = m60 (-2) (-7) ∧ Q 0 m60)))) ∧ ((iAnd (m y0 x3) 63) = 0 + 30 → ((0 : Int) ≤ (w32 (x3 + 1)) ∧ ((w32 (x3 + 1)) : Int) < n0) ∧ jFull m ∧ jK d zX10_count [jO 10 p1, jI (m y0 (w32 (x3 + 1)))] m (fun v61 m61 => jFull m61 → ((0 : Int) ≤ (w32 (x3 + 1)) ∧ ((w32 (x3 + 1)) : Int) < n0) ∧ jFull m61 ∧ jK d zX11_count [jO 11 p2, jI (m61 y0 (w32 (x3 + 1)))] m61 (fun v62 m62 => jFull m62 → (v61 = v62 → aL_law_18 d n0 y0 p1 p2 (w32 (x3 + 6)) m62 Q) ∧ (¬ v61 = v62 → m62 (-3) 0 = m62 (-2) (-7) ∧ Q 0 m62)))) ∧ ((iAnd (m y0 x3) 63) = 0 + 31 → ((0 : Int) ≤ (w32 (x3 + 1)) ∧ ((w32 (x3 + 1)) : Int) < n0) ∧ ((0 : Int) ≤ (w32 (x3 + 2)) ∧ ((w32 (x3 + 2)) : Int) < n0) ∧ ((0 : Int) ≤ (w32 (x3 + 3)) ∧ ((w32 (x3 + 3)) : Int) < n0) ∧ jFull m ∧ jK d zX10_sheet [jO 10 p1, jI (m y0 (w32 (x3 + 1))), jI (m y0 (w32 (x3 + 2))), jI (m y0 (w32 (x3 + 3)))] m (fun v63 m63 => jFull m63 → ((0 : Int) ≤ (w32 (x3 + 1)) ∧ ((w32 (x3 + 1)) : Int) < n0) ∧ ((0 : Int) ≤ (w32 (x3 + 2)) ∧ ((w32 (x3 + 2)) : Int) < n0) ∧ ((0 : Int) ≤ (w32 (x3 + 3)) ∧ ((w32 (x3 + 3)) : Int) < n0) ∧ jFull m63 ∧ jK d zX11_sheet [jO 11 p2, jI (m63 y0 (w32 (x3 + 1))), jI (m63 y0 (w32 (x3 + 2))), jI (m63 y0 (w32 (x3 + 3)))] m63 (fun v64 m64 => jFull m64 → (v63 = v64 → aL_law_18 d n0 y0 p1 p2 (w32 (x3 + 6)) m64 Q) ∧ (¬ v63 = v64 → m64 (-3) 0 = m64 (-2) (-7) ∧ Q 0 m64)))) ∧ ((iAnd (m y0 x3) 63) = 0 + 32 → ((0 : Int) ≤ (w32 (x3 + 1)) ∧ ((w32 (x3 + 1)) : Int) < n0) ∧ ((0 : Int) ≤ (w32 (x3 + 2)) ∧ ((w32 (x3 + 2)) : Int) < n0) ∧ ((0 : Int) ≤ (w32 (x3 + 3)) ∧ ((w32 (x3 + 3)) : Int) < n0) ∧ ((0 : Int) ≤ (w32 (x3 + 4)) ∧ ((w32 (x3 + 4)) : Int) < n0) ∧ jFull m ∧ jK d zX10_put [jO 10 p1, jI (m y0 (w32 (x3 + 1))), jI (m y0 (w32 (x3 + 2))), jL (lOr (lShl (m y0 (w32 (x3 + 3))) 32) (lAnd (m y0 (w32 (x3 + 4))) 4294967295))] m (fun v65 m65 => jFull m65 → ((0 : Int) ≤ (w32 (x3 + 1)) ∧ ((w32 (x3 + 1)) : Int) < n0) ∧ ((0 : Int) ≤ (w32 (x3 + 2)) ∧ ((w32 (x3 + 2)) : Int) < n0) ∧ ((0 : Int) ≤ (w32 (x3 + 3)) ∧ ((w32 (x3 + 3)) : Int) < n0) ∧ ((0 : Int) ≤ (w32 (x3 + 4)) ∧ ((w32 (x3 + 4)) : Int) < n0) ∧ jFull m65 ∧ jK d zX11_put [jO 11 p2, jI (m65 y0 (w32 (x3 + 1))), jI (m65 y0 (w32 (x3 + 2))), jL (lOr (lShl (m65 y0 (w32 (x3 + 3))) 32) (lAnd (m65 y0 (w32 (x3 + 4))) 4294967295))] m65 (fun v66 m66 => jFull m66 → (v65 = v66 → aL_law_18 d n0 y0 p1 p2 (w32 (x3 + 6)) m66 Q) ∧ (¬ v65 = v66 → m66 (-3) 0 = m66 (-2) (-7) ∧ Q 0 m66)))) ∧ ((iAnd (m y0 x3) 63) = 0 + 33 → ((0 : Int) ≤ (w32 (x3 + 1)) ∧ ((w32 (x3 + 1)) : Int) < n0) ∧ ((0 : Int) ≤ (w32 (x3 + 2)) ∧ ((w32 (x3 + 2)) : Int) < n0) ∧ jFull m ∧ jK d zX10_item [jO 10 p1, jI (m y0 (w32 (x3 + 1))), jI (m y0 (w32 (x3 + 2)))] m (fun v67 m67 => jFull m67 → ((0 : Int) ≤ (w32 (x3 + 1)) ∧ ((w32 (x3 + 1)) : Int) < n0) ∧ ((0 : Int) ≤ (w32 (x3 + 2)) ∧ ((w32 (x3 + 2)) : Int) < n0) ∧ jFull m67 ∧ jK d zX11_item [jO 11 p2, jI (m67 y0 (w32 (x3 + 1))), jI (m67 y0 (w32 (x3 + 2)))] m67 (fun v68 m68 => jFull m68 → (v67 = v68 → aL_law_18 d n0 y0 p1 p2 (w32 (x3 + 6)) m68 Q) ∧ (¬ v67 = v68 → m68 (-3) 0 = m68 (-2) (-7) ∧ Q 0 m68)))) ∧ ((iAnd (m y0 x3) 63) = 0 + 34 → ((0 : Int) ≤ (w32 (x3 + 1)) ∧ ((w32 (x3 + 1)) : Int) < n0) ∧ ((0 : Int) ≤ (w32 (x3 + 2)) ∧ ((w32 (x3 + 2)) : Int) < n0) ∧ ((0 : Int) ≤ (w32 (x3 + 3)) ∧ ((w32 (x3 + 3)) : Int) < n0) ∧ ((0 : Int) ≤ (w32 (x3 + 4)) ∧ ((w32 (x3 + 4)) : Int) < n0) ∧ ((0 : Int) ≤ (w32 (x3 + 5)) ∧ ((w32 (x3 + 5)) : Int) < n0) ∧ jFull m ∧ jK d zX10_copy [jO 10 p1, jI (m y0 (w32 (x3 + 1))), jI (m y0 (w32 (x3 + 2))), jI (m y0 (w32 (x3 + 3))), jI (m y0 (w32 (x3 + 4))), jI (m y0 (w32 (x3 + 5)))] m (fun v69 m69 => jFull m69 → ((0 : Int) ≤ (w32 (x3 + 1)) ∧ ((w32 (x3 + 1)) : Int) < n0) ∧ ((0 : Int) ≤ (w32 (x3 + 2)) ∧ ((w32 (x3 + 2)) : Int) < n0) ∧ ((0 : Int) ≤ (w32 (x3 + 3)) ∧ ((w32 (x3 + 3)) : Int) < n0) ∧ ((0 : Int) ≤ (w32 (x3 + 4)) ∧ ((w32 (x3 + 4)) : Int) < n0) ∧ ((0 : Int) ≤ (w32 (x3 + 5)) ∧ ((w32 (x3 + 5)) : Int) < n0) ∧ jFull m69 ∧ jK d zX11_copy [jO 11 p2, jI (m69 y0 (w32 (x3 + 1))), jI (m69 y0 (w32 (x3 + 2))), jI (m69 y0 (w32 (x3 + 3))), jI (m69 y0 (w32 (x3 + 4))), jI (m69 y0 (w32 (x3 + 5)))] m69 (fun v70 m70 => jFull m70 → (v69 = v70 → aL_law_18 d n0 y0 p1 p2 (w32 (x3 + 6)) m70 Q) ∧ (¬ v69 = v70 → m70 (-3) 0 = m70 (-2) (-7) ∧ Q 0 m70)))) ∧ ((iAnd (m y0 x3) 63) = 0 + 35 → ((0 : Int) ≤ (w32 (x3 + 1)) ∧ ((w32 (x3 + 1)) : Int) < n0) ∧ ((0 : Int) ≤ (w32 (x3 + 2)) ∧ ((w32 (x3 + 2)) : Int) < n0) ∧ ((0 : Int) ≤ (w32 (x3 + 3)) ∧ ((w32 (x3 + 3)) : Int) < n0) ∧ ((0 : Int) ≤ (w32 (x3 + 4)) ∧ ((w32 (x3 + 4)) : Int) < n0) ∧ ((0 : Int) ≤ (w32 (x3 + 5)) ∧ ((w32 (x3 + 5)) : Int) < n0) ∧ jFull m ∧ jK d zX10_lay [jO 10 p1, jI (m y0 (w32 (x3 + 1))), jI (m y0 (w32 (x3 + 2))), jI (m y0 (w32 (x3 + 3))), jI (m y0 (w32 (x3 + 4))), jI (m y0 (w32 (x3 + 5)))] m (fun v71 m71 => jFull m71 → ((0 : Int) ≤ (w32 (x3 + 1)) ∧ ((w32 (x3 + 1)) : Int) < n0) ∧ ((0 : Int) ≤ (w32 (x3 + 2)) ∧ ((w32 (x3 + 2)) : Int) < n0) ∧ ((0 : Int) ≤ (w32 (x3 + 3)) ∧ ((w32 (x3 + 3)) : Int) < n0) ∧ ((0 : Int) ≤ (w32 (x3 + 4)) ∧ ((w32 (x3 + 4)) : Int) < n0) ∧ ((0 : Int) ≤ (w32 (x3 + 5)) ∧ ((w32 (x3 + 5)) : Int) < n0) ∧ jFull m71 ∧ jK d zX11_lay [jO 11 p2, jI (m71 y0 (w32 (x3 + 1))), jI (m71 y0 (w32 (x3 + 2))), jI (m71 y0 (w32 (x3 + 3))), jI (m71 y0 (w32 (x3 + 4))), jI (m71 y0 (w32 (x3 + 5)))] m71 (fun v72 m72 => jFull m72 → (v71 = v72 → aL_law_18 d n0 y0 p1 p2 (w32 (x3 + 6)) m72 Q) ∧ (¬ v71 = v72 → m72 (-3) 0 = m72 (-2) (-7) ∧ Q 0 m72)))) ∧ ((iAnd (m y0 x3) 63) < 0 ∨ 35 < (iAnd (m y0 x3) 63) → aL_law_18 d n0 y0 p1 p2 (w32 (x3 + 6)) m Q) ∧ True)) :
    aL_law_18 d n0 y0 p1 p2 x3 m Q := jWp_snd [(18, [true, true, true, true])] jcL_law 74 rfl h

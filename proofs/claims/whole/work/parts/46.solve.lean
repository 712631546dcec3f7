/-! costs behind a change that the reference's court doesn't see -/
theorem q_costs2 {d : Nat} {m m1 : jM} {Q : Int → jM → Prop} (h : Inv m) (hs : ∀ q, 104 ≤ q → q ≤ 117 → m1 q = m q) (hd : 307 ≤ d) (hQ : ∀ m', rQt m1 m' → alk (rO (m' 128)) (rB (m' 128)) (rC (m' 104)) (iO m) (rBu m) (rC (m 104)) → Q 0 m') : jK d zX11_costs [jO 11 103] m1 Q := by
  have hR : rROk m1 := by
    have := Inv_rROk h
    unfold rROk at this ⊢
    rw [rG_q (fun q a b => hs q (by omega) b)]
    exact this
  have ht : tbd (m1 105) := by rw [hs 105 (by omega) (by omega)]; exact (Inv_tbd h).2
  have eb : rBu m1 = rBu m := rBu_q (fun q a b => hs q (by omega) b)
  have eo : gO (rJ (m1 104)) (rC (m1 104)) (rBu m1) (m1 107) = iO m := by unfold iO; rw [eb, hs 104 (by omega) (by omega), hs 107 (by omega) (by omega)]
  refine jK_deep (show 0 + 307 ≤ d by omega) (s_costs hR ht (fun m' f1 f2 f3 f4 => ?_))
  rw [eo, eb] at f4
  refine hQ m' ⟨fun q a b c => f1 q a (by omega) (by omega), fun j hj => f2 j (by omega)⟩ ⟨fun c c1 c2 => by rw [f1 104 (by omega) (by omega) (by omega), hs 104 (by omega) (by omega)], fun j c j1 j2 c1 c2 => (f4 j c j1 j2 c1 c2).1, fun j c j1 j2 c1 c2 hO => (f4 j c j1 j2 c1 c2).2 (by rw [← (f4 j c j1 j2 c1 c2).1]; exact hO)⟩
/-! solve -/
theorem Inv_ro {m m' : jM} (h : Inv m) (f : ∀ q, ¬ (70 ≤ q ∧ q ≤ 80) → q ≠ 103 → ¬ (119 ≤ q ∧ q ≤ 148) → m' q = m q) (h104 : ∀ j, j = 16 ∨ j = 68 → m' 103 j = m 103 j) (hr : iRo m') : Inv m' := by
  obtain ⟨a1, a2, a3, a4, a5, a6, a7, a8, a9, a10, a11⟩ := h
  have g : ∀ q, q < 70 ∨ (80 < q ∧ q < 103) ∨ (103 < q ∧ q < 119) ∨ 148 < q → m' q = m q := fun q hq => f q (by omega) (by omega) (by omega)
  exact ⟨by rw [g 1 (by omega), g 104 (by omega)]; exact a1, by rw [g 2 (by omega), g 105 (by omega)]; exact a2, by rw [g 3 (by omega), g 106 (by omega)]; exact a3, by rw [g 4 (by omega), g 107 (by omega)]; exact a4,
    iRu_fr a5 a6 (g 5 (by omega)) (fun q h => g q (by omega)) (fun q a b => g q (by omega)), iPr_fr a6 (g 5 (by omega)) (by rw [g 45 (by omega)]), iTa_fr a7 (by rw [g 45 (by omega)]) (h104 16 (by omega)) (g 46 (by omega)) (g 118 (by omega)), hr, iIm_fr a9 (by rw [g 0 (by omega)]) (h104 68 (by omega)) (fun q h => g q (by omega)), iSh_fr a10 (fun q h => g q (by omega)), iCa_fr a11 (fun j a b => by rw [g 0 (by omega)]) (fun q h => g q (by omega))⟩
/-- cases that are OUT pay nothing -/
theorem rd_out {O : Int → Int → Bool} {b : Int → Int → Int} {C : Int → Bool} {c : Int} (hc : 0 ≤ c ∧ c < 8) (hC : ¬ C c = true) (hO : ∀ j : Int, O j c = true → C c = true) (i : Nat) : (rdN O b C (rd0 O b) i).2 c = 0 := by
  induction i with
  | zero =>
    show rdP O b c = 0
    have key : ∀ (r : Nat) (j : Int), fpF O b c r j (-1) = -1 := by
      intro r
      induction r with
      | zero => intro j; rfl
      | succ r ih =>
        intro j
        show fpF O b c r (j + 1) (if O j c = true then _ else -1) = -1
        rw [if_neg (fun g => hC (hO j g))]
        exact ih (j + 1)
    unfold rdP
    rw [if_pos hc, if_pos (key 8 0)]
  | succ i ih =>
    show (rdX O b C (rdN O b C (rd0 O b) i)).2 c = 0
    unfold rdX
    dsimp only
    rw [if_neg]
    · exact ih
    · intro g
      have := ((rdM_ok O b C (rdN O b C (rd0 O b) i)).2.2.1 c hc.1 hc.2).mp g
      exact hC this.1
noncomputable def iN_ (m : jM) (i : Nat) : (Int → Int) × (Int → Int) := rdN (iO m) (rBu m) (rC (m 104)) (rd0 (iO m) (rBu m)) i
theorem alk_rdN {O O' : Int → Int → Bool} {b b' : Int → Int → Int} {C C' : Int → Bool} (al : alk O b C O' b' C') (i : Nat) : rdN O b C (rd0 O b) i = rdN O' b' C' (rd0 O' b') i := by
  rw [rd0_congr al.2.1 al.2.2]
  exact rdN_congr al.2.1 al.2.2 al.1 _ i
theorem s_begins {d : Nat} {m m0 : jM} {Q : Int → jM → Prop} (h : Inv m0) (hs : ∀ q, 104 ≤ q → q ≤ 117 → m q = m0 q) (hd : 320 ≤ d) (hQ : ∀ m' : jM, (∀ q, q ≠ 103 → ¬ (119 ≤ q ∧ q ≤ 137) → ¬ (144 ≤ q ∧ q ≤ 148 ∧ q ≠ 146) → m' q = m q) → (∀ j, j = 16 ∨ j = 68 → m' 103 j = m 103 j) → m' 103 50 = 0 → m' 103 64 = mkf (rC (m0 104)) 8 → alk (rO (m' 128)) (rB (m' 128)) (rC (m' 104)) (iO m0) (rBu m0) (rC (m0 104)) → (∀ j : Int, 0 ≤ j → j < 8 → m' 136 j = 0 ∧ m' 137 j = rdP (iO m0) (rBu m0) j) → Q 0 m') : jK d zX11_begins [jO 11 103] m Q := by
  refine jK_deep (show 319 + 1 ≤ d by omega) (gX11_begins 319 m Q (q_costs2 h hs (by omega) (fun m1 q1 al => ?_)))
  generalize hm2 : jUp m1 103 50 0 = m2
  have f2 : ∀ q, q ≠ 103 → m2 q = m1 q := fun q hq => by rw [← hm2, up_ne hq]
  have g2 : ∀ j, j ≠ 50 → m2 103 j = m1 103 j := fun j hj => by rw [← hm2, up_oth hj]
  have e50 : m2 103 50 = 0 := by rw [← hm2, up_same]
  have fin : ∀ mm : jM, (∀ q, q ≠ 136 → q ≠ 137 → mm q = m2 q) → (∀ j : Int, 0 ≤ j → j < 8 → mm 136 j = 0 ∧ mm 137 j = rdP (iO m0) (rBu m0) j) → Q 0 (jUp mm 103 64 (mkf (rC (mm 104)) 8)) := by
    intro mm f e
    have e105 : mm 104 = m0 104 := by rw [f 104 (by omega) (by omega), f2 104 (by omega), q1.1 104 (by omega) (by omega) (by omega), hs 104 (by omega) (by omega)]
    refine hQ _ (fun q a b c => ?_) (fun j hj => ?_) ?_ ?_ ?_ (fun j j1 j2 => ?_)
    · rw [up_ne a, f q (by omega) (by omega), f2 q a]; exact q1.1 q a b c
    · rw [up_oth (by omega), f 103 (by omega) (by omega), g2 j (by omega)]; exact q1.2 j (by omega)
    · rw [up_oth (by omega), f 103 (by omega) (by omega)]; exact e50
    · rw [up_same, e105]
    · rw [up_ne (by omega), up_ne (by omega), f 128 (by omega) (by omega), f 104 (by omega) (by omega), f2 128 (by omega), f2 104 (by omega)]; exact al
    · rw [up_ne (by omega), up_ne (by omega)]; exact e j j1 j2
  have l31 : ∀ (k : Nat) (c j v : Int) (mm : jM), 0 ≤ j → j + k = 8 → 0 ≤ c → c < 8 → (∀ q, q ≠ 136 → q ≠ 137 → mm q = m2 q) → (∀ m3 v', v' = (if fpF (iO m0) (rBu m0) c k j v = -1 then 0 else fpF (iO m0) (rBu m0) c k j v) → m3 = jUp mm 137 c v' → aX11_begins_11 319 (c + 1) m3 Q) → aX11_begins_31 319 c v j mm Q := by
    intro k
    induction k with
    | zero =>
      intro c j v mm j0 jk c0 c8 f cont
      have cc : ∀ v', v' = (if v = -1 then 0 else v) → aX11_begins_11 319 (c + 1) (jUp mm 137 c v') Q := fun v' hv => cont _ v' hv rfl
      refine gX11_begins_31 319 c v j mm Q ⟨fun q => by omega, fun _ => ⟨fun g => ⟨by omega, ?_⟩, fun g => ⟨by omega, ?_⟩⟩⟩ <;> rw [w32_id (by omega) (by omega)]
      · exact cc 0 (by rw [if_pos g])
      · exact cc v (by rw [if_neg g])
    | succ k ih =>
      intro c j v mm j0 jk c0 c8 f cont
      have hw : w32 (w32 (8 * j) + c) = 8 * j + c := by rw [w32_id (z := 8 * j) (by omega) (by omega), w32_id (by omega) (by omega)]
      have eo := al.2.1 j c j0 (by omega) c0 c8
      have eb := al.2.2 j c j0 (by omega) c0 c8
      rw [eo] at eb
      unfold rO at eo
      unfold rB at eb
      have e129 : mm 128 = m1 128 := by rw [f 128 (by omega) (by omega), f2 128 (by omega)]
      have st : ∀ v2, v2 = (if iO m0 j c = true then (if v = -1 then rBu m0 j c else min v (rBu m0 j c)) else v) → aX11_begins_31 319 c v2 (j + 1) mm Q := by
        intro v2 hv
        refine ih c (j + 1) v2 mm (by omega) (by omega) c0 c8 f ?_
        rw [hv]
        exact cont
      refine gX11_begins_31 319 c v j mm Q ⟨fun q => ?_, fun q => by omega⟩
      rw [hw, w32_id (z := j + 1) (by omega) (by omega), e129]
      refine ⟨by omega, fun g => ?_, fun g => ?_⟩
      · have ho : ¬ iO m0 j c = true := by rw [← eo]; simp [g]
        exact st v (by rw [if_neg ho])
      · have ho : iO m0 j c = true := by rw [← eo]; simp [g]
        have eb' := eb ho
        rw [eb']
        refine ⟨fun g2 => st _ (by rw [if_pos ho, if_pos g2]), fun g2 => ⟨fun g3 => st _ (by rw [if_pos ho, if_neg g2, Int.min_eq_right (by omega)]), fun g3 => st _ (by rw [if_pos ho, if_neg g2, Int.min_eq_left (by omega)])⟩⟩
  have l11 : ∀ (k : Nat) (c : Int) (mm : jM), 0 ≤ c → c + k = 8 → (∀ q, q ≠ 136 → q ≠ 137 → mm q = m2 q) → (∀ j : Int, 0 ≤ j → j < c → mm 136 j = 0 ∧ mm 137 j = rdP (iO m0) (rBu m0) j) → aX11_begins_11 319 c mm Q := by
    intro k
    induction k with
    | zero =>
      intro c mm c0 ck f e
      exact gX11_begins_11 319 c mm Q ⟨fun q => by omega, fun _ => jK_deep (show 0 + 2 ≤ 319 by omega) (s_casesIn (fin mm f (fun j j1 j2 => e j j1 (by omega))))⟩
    | succ k ih =>
      intro c mm c0 ck f e
      refine gX11_begins_11 319 c mm Q ⟨fun q => ⟨by omega, ?_⟩, fun q => by omega⟩
      refine l31 8 c 0 (-1) _ (by omega) (by omega) c0 (by omega) (fun q a b => by rw [up_ne a]; exact f q a b) (fun m3 v' hv hm3 => ?_)
      subst hm3
      refine ih (c + 1) _ (by omega) (by omega) (fun q a b => by rw [up_ne b, up_ne a]; exact f q a b) (fun j j1 j2 => ?_)
      rw [up_ne (by omega), up_eq, up_eq, up_ne (by omega)]
      by_cases hj : j = c
      · rw [if_pos hj, if_pos hj]
        refine ⟨rfl, ?_⟩
        rw [hv, hj]
        unfold rdP
        rw [if_pos (show 0 ≤ c ∧ c < 8 from ⟨c0, by omega⟩)]
      · rw [if_neg hj, if_neg hj]; exact e j j1 (by omega)
  exact l11 8 0 m2 (by omega) (by omega) (fun _ _ _ => rfl) (fun j j1 j2 => by omega)
theorem s_solveR {d : Nat} {m m0 : jM} {N : Nat} {Q : Int → jM → Prop} (h : Inv m0) (hs : ∀ q, 104 ≤ q → q ≤ 117 → m q = m0 q) (hd : 340 ≤ d) (hN : rdL (iO m0) (rBu m0) (rC (m0 104)) (rd0 (iO m0) (rBu m0)) N) (hQ : ∀ m' : jM, (∀ q, q ≠ 103 → ¬ (119 ≤ q ∧ q ≤ 148) → m' q = m q) → (∀ j, j = 16 ∨ j = 68 → m' 103 j = m 103 j) → m' 103 50 = N + 1 → (∀ i : Nat, i ≤ N → rdGi (iO m0) (rBu m0) (rC (m0 104)) (mkf (rC (m0 104)) 8) (iN_ m0 i) m' i) → Q (N + 1) m') : jK d zX11_solve [jO 11 103] m Q := by
  refine jK_deep (show 339 + 1 ≤ d by omega) (gX11_solve 339 m Q (s_begins h hs (by omega) (fun m1 f1 g1 e50 e64 al ep => ?_)))
  have n44 := hN.1
  generalize hU : mkf (rC (m0 104)) 8 = U at *
  have loop : ∀ (k i : Nat) (x : Int) (mm : jM), x = i → i + k = N + 1 → 1 ≤ k → (∀ q, ¬ rdCells q → mm q = m1 q) → (∀ j, j = 16 ∨ j = 68 ∨ j = 64 → mm 103 j = m1 103 j) → mm 103 50 = x → (∀ j : Int, 0 ≤ j → j < 8 → mm 136 j = (iN_ m0 i).1 j ∧ mm 137 j = (iN_ m0 i).2 j) → (∀ e : Nat, e < i → rdGi (iO m0) (rBu m0) (rC (m0 104)) U (iN_ m0 e) mm e) → aX11_solve_6 339 0 mm Q := by
    intro k
    induction k with
    | zero => intro i x mm hx hk h1; omega
    | succ k ih =>
      intro i x mm hx hk h1 f g h50 hp hold
      have e129 : mm 128 = m1 128 := f 128 (by unfold rdCells; omega)
      have e105 : mm 104 = m1 104 := f 104 (by unfold rdCells; omega)
      have al' : alk (rO (mm 128)) (rB (mm 128)) (rC (mm 104)) (iO m0) (rBu m0) (rC (m0 104)) := by rw [e129, e105]; exact al
      have eM : rdM (rO (mm 128)) (rB (mm 128)) (rC (mm 104)) (iN_ m0 i) = rdM (iO m0) (rBu m0) (rC (m0 104)) (iN_ m0 i) := rdM_congr al'.2.1 al'.2.2 al'.1 _
      have eR : rdR (rO (mm 128)) (rB (mm 128)) (rC (mm 104)) (iN_ m0 i) = rdR (iO m0) (rBu m0) (rC (m0 104)) (iN_ m0 i) := rdR_congr al'.2.1 al'.2.2 al'.1 _
      have eT : rdT (rO (mm 128)) (rB (mm 128)) (iN_ m0 i) = rdT (iO m0) (rBu m0) (iN_ m0 i) := rdT_congr al'.2.1 al'.2.2 _
      refine gX11_solve_6 339 0 mm Q ⟨fun _ => ⟨fun _ => jK_deep (show 0 + 12 ≤ 339 by omega) (s_isLast (x := x) (U := U) (s := iN_ m0 i) (by omega) h50 (by rw [g 64 (by omega)]; exact e64) (fun j j1 j2 => (hp j j1 j2).1) (fun j j1 j2 => (hp j j1 j2).2) (fun m3 f3 g3 e3 gi o1 o2 nx => ?_)), fun w => by omega⟩, fun w => absurd rfl w⟩
      have gi' : rdGi (iO m0) (rBu m0) (rC (m0 104)) U (iN_ m0 i) m3 i := by
        unfold rdGi at gi ⊢
        rw [eM, eR, eT, hx] at gi
        exact gi
      have old' : ∀ e : Nat, e < i + 1 → rdGi (iO m0) (rBu m0) (rC (m0 104)) U (iN_ m0 e) m3 e := by
        intro e he
        by_cases hei : e = i
        · rw [hei]; exact gi'
        · have := hold e (by omega)
          unfold rdGi at this ⊢
          rw [o1 138 (by omega) (by omega) (by omega) (by omega) (by omega) e (by omega), o1 139 (by omega) (by omega) (by omega) (by omega) (by omega) e (by omega), o1 140 (by omega) (by omega) (by omega) (by omega) (by omega) e (by omega), o1 141 (by omega) (by omega) (by omega) (by omega) (by omega) e (by omega), o1 142 (by omega) (by omega) (by omega) (by omega) (by omega) e (by omega), o1 146 (by omega) (by omega) (by omega) (by omega) (by omega) e (by omega)]
          obtain ⟨t1, t2, t3, t4, t5, t6, t7⟩ := this
          refine ⟨t1, t2, t3, t4, t5, t6, fun k k1 k2 => ?_⟩
          rw [o2 _ (by omega), o2 _ (by omega)]
          exact t7 k k1 k2
      have f3' : ∀ q, ¬ rdCells q → m3 q = m1 q := fun q hq => by rw [f3 q hq, f q hq]
      have g3' : ∀ j, j = 16 ∨ j = 68 ∨ j = 64 → m3 103 j = m1 103 j := fun j hj => by rw [g3 j (by omega) (by omega) (by omega) (by omega)]; exact g j hj
      rw [eR]
      by_cases hi : i = N
      · have hR : rdR (iO m0) (rBu m0) (rC (m0 104)) (iN_ m0 i) = -1 := by rw [hi]; exact hN.2.1
        rw [bI_t hR]
        refine gX11_solve_6 339 1 m3 Q ⟨fun w => absurd w (by omega), fun _ => ?_⟩
        rw [e3, show x + 1 = (N : Int) + 1 by omega]
        refine hQ m3 (fun q a b => ?_) (fun j hj => ?_) (by rw [e3]; omega) (fun e he => old' e (by omega))
        · rw [f3' q (by unfold rdCells; omega)]; exact f1 q a (by omega) (by omega)
        · rw [g3' j (by omega)]; exact g1 j (by omega)
      · have hR : rdR (iO m0) (rBu m0) (rC (m0 104)) (iN_ m0 i) ≠ -1 := hN.2.2 i (by omega)
        rw [bI_f hR]
        have nx' := nx (by rw [eR]; exact hR)
        refine ih (i + 1) (x + 1) m3 (by omega) (by omega) (by omega) f3' g3' e3 (fun j j1 j2 => ?_) old'
        have := nx' j j1 j2
        unfold rdX at this
        rw [eM, eR] at this
        exact this
  refine loop (N + 1) 0 0 m1 rfl (by omega) (by omega) (fun _ _ => rfl) (fun _ _ => rfl) e50 (fun j j1 j2 => ?_) (fun e he => by omega)
  have := ep j j1 j2
  exact this
theorem st_solve {m : jM} (h : Inv m) : stp zX10_solve zX11_solve [] m := by
  refine gX10_solve 899 m _ (r_plan h (fun m1 h1 p1 pl1 q1 => jK_deep (show 0 + 5 ≤ 899 by omega) (s_make pl1.2.1 (iPl_B h1 pl1) (fun m2 N f2 l2 e2 r2 => ?_))) (by omega))
  have al := pl1.2.2.1
  have hN : rdL (iO m1) (rBu m1) (rC (m1 104)) (rd0 (iO m1) (rBu m1)) N := by
    have := rdL_congr al.2.1 al.2.2 al.1 l2
    rw [rd0_congr al.2.1 al.2.2] at this
    exact this
  have U1 : m1 54 0 = mkf (rC (m1 104)) 8 := by
    obtain ⟨a, b⟩ := mkf_ok (rC (m1 104)) 8 (Nat.le_refl 8)
    refine mk_ext (by rw [pl1.1]; exact h1.1.2.1) a (fun j j1 j2 => bool_eq ?_)
    rw [b j j1 j2, al.1 j j1 j2]
    exact ⟨fun x => ⟨by omega, x⟩, fun x => x.2⟩
  have n44 := hN.1
  refine ⟨fun q hq => by rw [f2 q (by omega)]; exact cQt_n q1 q hq, ?_⟩
  rw [e2]
  refine s_solveR h1 (fun q a b => f2 q (by omega)) (by omega) hN (fun m3 f3 g3 e3 r3 => ⟨rfl, ?_, fun q hq => by rw [f3 q (by omega) (by omega), f2 q (by omega)]; exact cQt_n q1 q hq⟩)
  have c7 : ∀ q, 75 ≤ q → q ≤ 77 → m3 q = m2 q := fun q _ _ => f3 q (by omega) (by omega)
  refine Inv_ro h1 (fun q a b c => by rw [f3 q b c, f2 q (by omega)]) (fun j hj => by rw [g3 j hj, f2 103 (by omega)]) ?_
  unfold iRo
  rw [c7 75 (by omega) (by omega), c7 76 (by omega) (by omega), c7 77 (by omega) (by omega), e2, e3]
  refine ⟨rfl, by omega, fun i i1 i2 => ?_⟩
  obtain ⟨n, rfl⟩ : ∃ n : Nat, i = n := ⟨i.toNat, by omega⟩
  have R2 := r2 n (by omega)
  have R3 := r3 n (by omega)
  rw [alk_rdN al n] at R2
  unfold rdFi at R2
  rw [rdM_congr al.2.1 al.2.2 al.1, rdR_congr al.2.1 al.2.2 al.1, rdT_congr al.2.1 al.2.2] at R2
  obtain ⟨s1, s2, s3, s4, s5, s6, s7⟩ := R2
  obtain ⟨t1, t2, t3, t4, t5, t6, t7⟩ := R3
  have eN : rdN (iO m1) (rBu m1) (rC (m1 104)) (rd0 (iO m1) (rBu m1)) n = iN_ m1 n := rfl
  rw [eN] at s1 s2 s3 s4 s5 s6 s7
  refine ⟨by rw [s1, t1], by rw [s2, t2], by rw [s3, t3], by rw [s4, t3, t4, t2, U1], by rw [s5, t5], by rw [s6, t6], fun k k1 k2 => ?_⟩
  by_cases hk : k < 8
  · rw [(s7 k k1 hk).1, (t7 k k1 hk).1]
  · have a := (s7 (k - 8) (by omega) (by omega)).2
    have b := (t7 (k - 8) (by omega) (by omega)).2
    rw [show 16 * (n : Int) + 8 + (k - 8) = 16 * n + k by omega] at a b
    rw [a, b]
    by_cases hc : rC (m1 104) (k - 8) = true
    · rw [if_pos (((mkf_ok (rC (m1 104)) 8 (Nat.le_refl 8)).2 (k - 8) (by omega) (by omega)).mpr ⟨by omega, hc⟩)]
    · rw [if_neg (fun x => hc (((mkf_ok (rC (m1 104)) 8 (Nat.le_refl 8)).2 (k - 8) (by omega) (by omega)).mp x).2)]
      exact rd_out ⟨by omega, by omega⟩ hc (fun j hj => iO_C hj) n

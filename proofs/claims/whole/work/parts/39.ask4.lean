/-! lack -/
theorem mMk_t {E E' : Int → Int → Bool} {C C' : Int → Prop} {A B n : Int} (hC : ∀ c : Int, 0 ≤ c → c < 8 → (C c ↔ C' c)) (hE : ∀ j c : Int, 0 ≤ j → j < 8 → 0 ≤ c → c < 8 → C c → E j c = E' j c) (h : mMk E C A B n) : mMk E' C' A B n := by
  obtain ⟨q, hq⟩ := mMk_ex E' C'
  obtain ⟨e1, e2, e3⟩ := mMk_u hC hE h hq
  rw [e1, e2, e3]
  exact hq
def lkV (m : jM) (w v : Int) : Prop := ∃ A B n : Int, mMk (iO m) (fun c => rC (m 104) c = true) A B n ∧ v = if w = 0 then pcn (rC (m 104)) 8 - n else if w = 1 then A else B
theorem lkV_u {m : jM} {w v v' : Int} (h : lkV m w v) (h' : lkV m w v') : v = v' := by
  obtain ⟨A, B, n, a, b⟩ := h
  obtain ⟨A', B', n', a', b'⟩ := h'
  obtain ⟨e1, e2, e3⟩ := mMk_u (fun _ _ _ => Iff.rfl) (fun _ _ _ _ _ _ _ => rfl) a a'
  rw [b, b', e1, e2, e3]
theorem lkV_q {m m' : jM} (h : ∀ q, 104 ≤ q → q ≤ 117 → m' q = m q) {w v : Int} (x : lkV m w v) : lkV m' w v := by
  unfold lkV
  rw [iO_q h, h 104 (by omega) (by omega)]
  exact x
theorem c_lack {d : Nat} {w : Int} {m : jM} {Q : Int → jM → Prop} (h : Inv m) (hd : 20 ≤ d) (hB : ¬ (0 ≤ w ∧ w ≤ 2) → Q (-2) m) (hQ : (0 ≤ w ∧ w ≤ 2) → ∀ m' v, Inv m' → cQt m m' → lkV m' w v → Q v m') : jK d zX10_lack [jO 10 0, jI w] m Q := by
  refine jK_deep (show 19 + 1 ≤ d by omega) (gX10_lack 19 w m Q ⟨fun g => hB (by omega), fun g => ⟨fun g2 => hB (by omega), fun g2 => ?_⟩⟩)
  have gg : 0 ≤ w ∧ w ≤ 2 := by omega
  refine r_plan h (fun m1 h1 p1 pl1 q1 => jK_deep (show 0 + 3 ≤ 19 by omega) (s_gfind (y := 57) (by omega) pl1.2.1 (fun m2 f2 k2 b2 => ?_))) (by omega)
  have h2 : Inv m2 := Inv_cq h1 (fun q _ a => f2 q (by omega)) (f2 0 (by omega))
  have q2 : cQt m m2 := cQt_t q1 ⟨fun q a b => f2 q (by omega), fun j _ => by rw [f2 0 (by omega)]⟩
  have K := mMk_t (E' := iO m1) (C' := fun c => rC (m1 104) c = true) (fun c c1 c2 => by rw [pl1.2.2.1.1 c c1 c2]) (fun j c j1 j2 c1 c2 _ => pl1.2.2.1.2.1 j c j1 j2 c1 c2) k2
  have e1 : m2 54 1 = pcn (rC (m1 104)) 8 := by
    rw [f2 54 (by omega), show m1 54 1 = pcn (bt (m1 54 0)) 8 from pl1.2.2.2.2.1.1]
    exact pcn_ext (fun c c1 c2 => pl1.2.2.1.1 c c1 (by omega))
  have fin : ∀ v, v = (if w = 0 then pcn (rC (m1 104)) 8 - m2 70 0 else if w = 1 then m2 70 1 else m2 70 2) → Q v m2 := fun v hv => hQ gg m2 v h2 q2 (lkV_q (fun q a b => f2 q (by omega)) ⟨_, _, _, K, hv⟩)
  refine ⟨fun w0 => fin _ ?_, fun w0 => ⟨fun w1 => fin _ ?_, fun w1 => fin _ ?_⟩⟩
  · have := pcn_nn (rC (m1 104)) 8
    rw [if_pos w0, e1, w32_id (by omega) (by omega)]
  · rw [if_neg w0, if_pos w1]
  · rw [if_neg w0, if_neg w1]
theorem s_casesIn {d : Nat} {m : jM} {Q : Int → jM → Prop} (h : Q (mkf (rC (m 104)) 8) m) : jK (d + 2) zX11_casesIn [jO 11 103] m Q := by
  have loop : ∀ (k : Nat) (i : Int), 0 ≤ i → i + k = 8 → aX11_casesIn_4 (d + 1) (mkf (rC (m 104)) i.toNat) i m Q := by
    intro k
    induction k with
    | zero =>
      intro i i0 ik
      refine gX11_casesIn_4 (d + 1) _ i m Q ⟨fun q => by omega, fun _ => ?_⟩
      rw [show i = 8 by omega]
      exact h
    | succ k ih =>
      intro i i0 ik
      have n := ih (i + 1) (by omega) (by omega)
      rw [mkf_s _ i0] at n
      refine gX11_casesIn_4 (d + 1) _ i m Q ⟨fun q => s_isCase (by omega) ⟨fun g => ?_, fun g => ?_⟩, fun q => by omega⟩ <;> rw [bI_0] at g <;> rw [w32_id (by omega) (by omega)]
      · rw [if_neg g] at n; exact n
      · rw [if_pos (Classical.not_not.mp g)] at n; exact n
  exact gX11_casesIn (d + 1) m Q (loop 8 0 (by omega) (by omega))
theorem pc_mk (f : Int → Bool) : mk8 (mkf f 8) ∧ pc8 (mkf f 8) = pcn f 8 := by
  obtain ⟨a, b⟩ := mkf_ok f 8 (Nat.le_refl 8)
  refine ⟨a, pcn_ext (fun j j1 j2 => bool_eq ?_)⟩
  rw [b j j1 (by omega)]
  exact ⟨fun g => g.2, fun g => ⟨j2, g⟩⟩
theorem s_casesMany {d : Nat} {m : jM} {Q : Int → jM → Prop} (h : Q (pcn (rC (m 104)) 8) m) : jK (d + 3) zX11_casesMany [jO 11 103] m Q := by
  obtain ⟨a, b⟩ := pc_mk (rC (m 104))
  refine gX11_casesMany (d + 2) m Q (s_casesIn (s_bc a ?_))
  rw [b]
  exact h
theorem q_lack {d : Nat} {w : Int} {m : jM} {Q : Int → jM → Prop} (h : Inv m) (hd : 330 ≤ d) (hB : ¬ (0 ≤ w ∧ w ≤ 2) → Q (-2) m) (hQ : (0 ≤ w ∧ w ≤ 2) → ∀ m' v, rQt m m' → lkV m w v → Q v m') : jK d zX11_lack [jO 11 103, jI w] m Q := by
  refine jK_deep (show 329 + 1 ≤ d by omega) (gX11_lack 329 w m Q (s_in ⟨fun g => ?_, fun g => ?_⟩))
  · rw [bI_0] at g; exact hB g
  · rw [bI_0, Classical.not_not] at g
    refine q_costs h (by omega) (fun m1 h1 q1 al _ => ?_)
    have fin : ∀ m2, (∀ q, q ≠ 144 → m2 q = m1 q) → (∀ c : Int, 0 ≤ c → c < 8 → m2 144 c = mkf (fun j => rO (m1 128) j c) 8) → jK 329 zX11_marking [jO 11 103] m2 (fun v1 m1 => (w = 0 → jK 329 zX11_casesIn [jO 11 103] m1 (fun v2 m2 => jK 329 zJ6_bitCount_0f7a4 [jI v2] m2 (fun v3 m3 => Q (w32 (v3 - v1)) m3))) ∧ (¬ w = 0 → (w = 1 → Q (m1 103 62) m1) ∧ (¬ w = 1 → Q (m1 103 63) m1))) := by
      intro m2 f2 e2
      have e105 : m2 104 = m1 104 := f2 104 (by omega)
      have e105' : ∀ c : Int, 0 ≤ c → c < 8 → rC (m2 104) c = rC (m 104) c := fun c a b => by rw [e105]; exact al.1 c a b
      have hp : ∀ j c : Int, 0 ≤ j → j < 8 → 0 ≤ c → c < 8 → pO (m2 144) j c = iO m j c := by
        intro j c j1 j2 c1 c2
        rw [← al.2.1 j c j1 j2 c1 c2]
        unfold pO
        rw [e2 c c1 c2]
        refine bool_eq ?_
        rw [(mkf_ok (fun j => rO (m1 128) j c) 8 (Nat.le_refl 8)).2 j j1 j2]
        exact ⟨fun x => x.2, fun x => ⟨j2, x⟩⟩
      refine jK_deep (show 0 + 11 ≤ 329 by omega) (s_marking (fun c c1 c2 => by rw [e2 c c1 c2]; exact (mkf_ok _ 8 (Nat.le_refl 8)).1) (fun m3 n f3 g3 k3 b3 => ?_))
      have K := mMk_t (E' := iO m) (C' := fun c => rC (m 104) c = true) (fun c c1 c2 => by rw [e105' c c1 c2]) (fun j c j1 j2 c1 c2 _ => hp j c j1 j2 c1 c2) k3
      have q3 : rQt m m3 := rQt_t q1 ⟨fun q a b c => by rw [f3 q a (by omega), f2 q (by omega)], fun j hj => by rw [g3 j (by omega) (by omega) (by omega), f2 103 (by omega)]⟩
      refine ⟨fun w0 => ?_, fun w0 => ⟨fun w1 => hQ g m3 _ q3 ⟨_, _, _, K, by rw [if_neg w0, if_pos w1]⟩, fun w1 => hQ g m3 _ q3 ⟨_, _, _, K, by rw [if_neg w0, if_neg w1]⟩⟩⟩
      obtain ⟨a, b⟩ := pc_mk (rC (m3 104))
      refine jK_deep (show 0 + 2 ≤ 329 by omega) (s_casesIn (s_bc a ?_))
      rw [b]
      have e3 : pcn (rC (m3 104)) 8 = pcn (rC (m 104)) 8 := pcn_ext (fun c c1 c2 => by rw [f3 104 (by omega) (by omega)]; exact e105' c c1 (by omega))
      have := pcn_nn (rC (m 104)) 8
      rw [e3, w32_id (by omega) (by omega)]
      exact hQ g m3 _ q3 ⟨_, _, _, K, by rw [if_pos w0]⟩
    have l36 : ∀ (k : Nat) (c i : Int) (mm : jM), 0 ≤ i → i + k = 8 → 0 ≤ c → c < 8 → (∀ q, q ≠ 144 → mm q = m1 q) → (∀ x : Int, 0 ≤ x → x < c → mm 144 x = mkf (fun j => rO (m1 128) j x) 8) → mm 144 c = mkf (fun j => rO (m1 128) j c) i.toNat →
        (∀ m2, (∀ q, q ≠ 144 → m2 q = m1 q) → (∀ x : Int, 0 ≤ x → x < c + 1 → m2 144 x = mkf (fun j => rO (m1 128) j x) 8) → aX11_lack_21 329 w (c + 1) m2 Q) → aX11_lack_36 329 w c i mm Q := by
      intro k
      induction k with
      | zero =>
        intro c i mm i0 ik c0 c8 f1 f2 f3 cont
        refine gX11_lack_36 329 w c i mm Q ⟨fun q => by omega, fun _ => ?_⟩
        rw [w32_id (by omega) (by omega)]
        refine cont mm f1 (fun x x1 x2 => ?_)
        by_cases hx : x = c
        · rw [hx, f3, show i = 8 by omega]; rfl
        · exact f2 x x1 (by omega)
      | succ k ih =>
        intro c i mm i0 ik c0 c8 f1 f2 f3 cont
        have hw : w32 (w32 (8 * i) + c) = 8 * i + c := by rw [w32_id (z := 8 * i) (by omega) (by omega), w32_id (by omega) (by omega)]
        have e129 : mm 128 = m1 128 := f1 128 (by omega)
        refine gX11_lack_36 329 w c i mm Q ⟨fun q => ?_, fun q => by omega⟩
        rw [hw, w32_id (z := i + 1) (by omega) (by omega), e129]
        refine ⟨by omega, fun g2 => ?_, fun g2 => ⟨by omega, by omega, ?_⟩⟩
        · refine ih c (i + 1) mm (by omega) (by omega) c0 c8 f1 f2 ?_ cont
          rw [mkf_s _ i0, f3, if_neg]
          unfold rO
          simp [g2]
        · refine ih c (i + 1) _ (by omega) (by omega) c0 c8 (fun q hq => by rw [up_ne hq]; exact f1 q hq) (fun x x1 x2 => by rw [up_oth (by omega)]; exact f2 x x1 x2) ?_ cont
          rw [up_same, mkf_s _ i0, f3, if_pos]
          unfold rO
          simp [g2]
    have l21 : ∀ (k : Nat) (c : Int) (mm : jM), 0 ≤ c → c + k = 8 → (∀ q, q ≠ 144 → mm q = m1 q) → (∀ x : Int, 0 ≤ x → x < c → mm 144 x = mkf (fun j => rO (m1 128) j x) 8) → aX11_lack_21 329 w c mm Q := by
      intro k
      induction k with
      | zero =>
        intro c mm c0 ck f1 f2
        exact gX11_lack_21 329 w c mm Q ⟨fun q => by omega, fun _ => fin mm f1 (fun x x1 x2 => f2 x x1 (by omega))⟩
      | succ k ih =>
        intro c mm c0 ck f1 f2
        refine gX11_lack_21 329 w c mm Q ⟨fun q => ⟨by omega, ?_⟩, fun q => by omega⟩
        refine l36 8 c 0 _ (by omega) (by omega) c0 (by omega) (fun q hq => by rw [up_ne hq]; exact f1 q hq) (fun x x1 x2 => by rw [up_oth (by omega)]; exact f2 x x1 x2) (by rw [up_same]; rfl) (fun m2 a b => ?_)
        exact ih (c + 1) m2 (by omega) (by omega) a b
    exact l21 8 0 m1 (by omega) (by omega) (fun _ _ => rfl) (fun x x1 x2 => by omega)
/-! days, day -/
noncomputable def dyS (J C : Int → Bool) (bu : Int → Int → Int) (mk : Int → Int) : Nat → Int
  | 0 => 0
  | n + 1 => w64 (dyS J C bu mk n + dyV J C bu mk n)
noncomputable def iV_ (m : jM) (d : Nat) : Int := dyV (rJ (m 104)) (rC (m 104)) (rBu m) (m 107) d
noncomputable def iS_ (m : jM) (d : Nat) : Int := dyS (rJ (m 104)) (rC (m 104)) (rBu m) (m 107) d
noncomputable def iT_ (m : jM) (d : Nat) : List Int := dyF (rJ (m 104)) (rC (m 104)) (rBu m) (dyM (rJ (m 104)) (rC (m 104)) (rBu m) (m 107) d)
noncomputable def iM_ (m : jM) (d : Nat) : Int → Int := dyM (rJ (m 104)) (rC (m 104)) (rBu m) (m 107) d
theorem iV_r {m : jM} (h : Inv m) (d : Nat) : iV_ m d = dpF ∨ (0 ≤ iV_ m d ∧ iV_ m d ≤ 8000000000) := by
  have := (dpt_r (h := 0) (C := rC (m 104)) (dy_B h (iM_ m d)) 8 (Nat.le_refl 8) 0 mk_0).1
  unfold iV_ dyV
  unfold iM_ at this
  omega
theorem iS_r {m : jM} (h : Inv m) (n : Nat) (hn : ∀ e : Nat, e < n → iV_ m e ≠ dpF) : n ≤ 8 → 0 ≤ iS_ m n ∧ iS_ m n ≤ 8000000000 * n := by
  induction n with
  | zero => intro _; exact ⟨Int.le_refl _, Int.le_refl _⟩
  | succ n ih =>
    intro h8
    have a := ih (fun e he => hn e (by omega)) (by omega)
    have b := (iV_r h n).resolve_left (hn n (by omega))
    show 0 ≤ w64 (iS_ m n + iV_ m n) ∧ w64 (iS_ m n + iV_ m n) ≤ _
    rw [w64_id (by omega) (by omega)]
    omega
theorem iV_q {m m' : jM} (h : ∀ q, 104 ≤ q → q ≤ 117 → m' q = m q) : iV_ m' = iV_ m ∧ iS_ m' = iS_ m ∧ iT_ m' = iT_ m ∧ iM_ m' = iM_ m := by
  have e1 := h 104 (by omega) (by omega)
  have e2 := h 107 (by omega) (by omega)
  have e3 := rBu_q (m' := m') (m := m) (fun q a b => h q (by omega) b)
  refine ⟨?_, ?_, ?_, ?_⟩ <;> funext d
  · unfold iV_; rw [e1, e2, e3]
  · unfold iS_; rw [e1, e2, e3]
  · unfold iT_; rw [e1, e2, e3]
  · unfold iM_; rw [e1, e2, e3]
/-- a day within the first n is still -/
def stl (m : jM) (n : Int) : Prop := ∃ e : Nat, (e : Int) < n ∧ iV_ m e = dpF
noncomputable def vDs (m : jM) (n : Int) : Int := if bP (stl m n) = true then -4611686018427387904 else iS_ m n.toNat
noncomputable def vDy (m : jM) (n c : Int) : Int := if bP (stl m (n + 1)) = true then -3 else (iT_ m n.toNat).getD c.toNat (-1)
theorem iDy_s {m : jM} (d : iDy m) : ∃ H : Nat, m 88 0 = H ∧ H ≤ 8 ∧ (∀ n : Int, 0 ≤ n → n ≤ 8 → (stl m n ↔ (H : Int) < n)) ∧ ∀ e : Nat, e < H → m 89 e = iV_ m e ∧ ∀ c : Int, 0 ≤ c → c < 8 → m 90 (8 * (e : Int) + c) = (iT_ m e).getD c.toNat (-1) := by
  obtain ⟨H, a, b, c, e, f⟩ := d
  refine ⟨H, a, b, fun n n0 n8 => ?_, f⟩
  constructor
  · rintro ⟨x, x1, x2⟩
    apply Classical.byContradiction
    intro g
    exact c x (by omega) x2
  · intro g
    exact ⟨H, g, e (by omega)⟩
theorem c_days {d : Nat} {n : Int} {m : jM} {Q : Int → jM → Prop} (h : Inv m) (hd : 20 ≤ d) (hB : ¬ (1 ≤ n ∧ n ≤ 8) → Q (-4611686018427387904) m) (hQ : (1 ≤ n ∧ n ≤ 8) → ∀ m', Inv m' → cQt m m' → Q (vDs m' n) m') : jK d zX10_days [jO 10 0, jI n] m Q := by
  refine jK_deep (show 19 + 1 ≤ d by omega) (gX10_days 19 n m Q ⟨fun g => hB (by omega), fun g => ⟨fun g2 => hB (by omega), fun g2 => ?_⟩⟩)
  refine r_diary h (fun m1 h1 p1 pl1 d1 q1 => ?_) (by omega)
  obtain ⟨H, a, b, c, e⟩ := iDy_s d1
  have hq := hQ (by omega) m1 h1 q1
  unfold vDs at hq
  have cn := c n (by omega) (by omega)
  refine ⟨fun w => ?_, fun w => ?_⟩ <;> rw [a] at w
  · rw [if_pos (bP_t.mpr (cn.mpr w))] at hq
    exact hq
  · rw [if_neg (fun x => w (cn.mp (bP_t.mp x)))] at hq
    have loop : ∀ (k x : Nat) (i : Int), i = x → i + k = n → aX10_days_39 19 n (iS_ m1 x) i m1 Q := by
      intro k
      induction k with
      | zero =>
        intro x i hi hk
        refine gX10_days_39 19 n _ i m1 Q ⟨fun q => by omega, fun _ => ?_⟩
        rw [show x = n.toNat by omega]
        exact hq
      | succ k ih =>
        intro x i hi hk
        refine gX10_days_39 19 n _ i m1 Q ⟨fun q => ⟨by omega, ?_⟩, fun q => by omega⟩
        have := ih (x + 1) (i + 1) (by omega) (by omega)
        rw [w32_id (by omega) (by omega), hi, (e x (by omega)).1, ← hi]
        exact this
    exact loop n.toNat 0 0 rfl (by omega)
theorem c_day {d : Nat} {n c : Int} {m : jM} {Q : Int → jM → Prop} (h : Inv m) (hd : 20 ≤ d) (hB : ¬ ((0 ≤ n ∧ n ≤ 7) ∧ 0 ≤ c ∧ c ≤ 7) → Q (-2) m) (hQ : ((0 ≤ n ∧ n ≤ 7) ∧ 0 ≤ c ∧ c ≤ 7) → ∀ m', Inv m' → cQt m m' → Q (vDy m' n c) m') : jK d zX10_day [jO 10 0, jI n, jI c] m Q := by
  refine jK_deep (show 19 + 1 ≤ d by omega) (gX10_day 19 n c m Q ⟨fun g => hB (by omega), fun g => ⟨fun g2 => s_isSeat ⟨fun g3 => ?_, fun g3 => ?_⟩, fun g2 => hB (by omega)⟩⟩)
  · rw [bI_0] at g3; exact hB (fun x => g3 x.2)
  · rw [bI_0, Classical.not_not] at g3
    refine r_diary h (fun m1 h1 p1 pl1 d1 q1 => ?_) (by omega)
    obtain ⟨H, a, b, cc, e⟩ := iDy_s d1
    have hq := hQ ⟨by omega, g3⟩ m1 h1 q1
    unfold vDy at hq
    have cn := cc (n + 1) (by omega) (by omega)
    rw [w32_id (z := n * 8) (by omega) (by omega), w32_id (by omega) (by omega)]
    refine ⟨fun w => ⟨by omega, ?_⟩, fun w => ?_⟩ <;> rw [a] at w
    · rw [if_neg (fun x => absurd (cn.mp (bP_t.mp x)) (by omega))] at hq
      have := (e n.toNat (by omega)).2 c g3.1 (by omega)
      rw [show (8 * ((n.toNat : Nat) : Int) + c) = n * 8 + c by omega] at this
      rw [this]
      exact hq
    · rw [if_pos (bP_t.mpr (cn.mpr (by omega)))] at hq
      exact hq
theorem q_daysOf {d : Nat} {n : Int} {m : jM} {Q : Int → jM → Prop} (h : Inv m) (hd : 320 ≤ d) (hn : 1 ≤ n ∧ n ≤ 8) (hF : stl m n → ∀ m', rQt m m' → Q dpF m') (hQ : ¬ stl m n → ∀ m', rQt m m' → (∀ c : Int, 0 ≤ c → c < 8 → m' 131 c = (iT_ m (n - 1).toNat).getD c.toNat (-1)) → Q (iS_ m n.toNat) m') : jK d zX11_daysOf [jO 11 103, jI n] m Q := by
  have l35 : ∀ (k x : Nat) (i : Int) (mm : jM), i = x → i + k = n → rQt m mm → (∀ y : Int, 0 ≤ y → y < 64 → mm 127 y = rBu m (y / 8) (y % 8)) → (∀ y : Int, 0 ≤ y → y < 64 → mm 147 y = iM_ m x y) → (∀ e : Nat, e < x → iV_ m e ≠ dpF) → (0 < x → ∀ c : Int, 0 ≤ c → c < 8 → mm 131 c = (iT_ m (x - 1)).getD c.toNat (-1)) → aX11_daysOf_35 319 n (iS_ m x) i mm Q := by
    intro k
    induction k with
    | zero =>
      intro x i mm hi hk q1 e128 e148 hv e132
      refine gX11_daysOf_35 319 n _ i mm Q ⟨fun q => by omega, fun _ => ?_⟩
      have hx : x = n.toNat := by omega
      rw [hx]
      refine hQ ?_ mm q1 (fun c c1 c2 => ?_)
      · rintro ⟨e, e1, e2⟩
        exact hv e (by omega) e2
      · rw [e132 (by omega) c c1 c2, show x - 1 = (n - 1).toNat by omega]
    | succ k ih =>
      intro x i mm hi hk q1 e128 e148 hv e132
      have rr : ∀ q, q ≠ 103 → ¬ (119 ≤ q ∧ q ≤ 137) → ¬ (144 ≤ q ∧ q ≤ 148 ∧ q ≠ 146) → mm q = m q := q1.1
      refine gX11_daysOf_35 319 n _ i mm Q ⟨fun q => ?_, fun q => by omega⟩
      refine jK_deep (show 0 + 3 ≤ 319 by omega) (s_opens (y := 147) (bu := rBu m) (by omega) e128 (fun m1 f1 a1 => ?_))
      have f1' : ∀ q, q ≠ 128 → m1 q = mm q := f1
      have al : alk (rO (m1 128)) (rB (m1 128)) (rC (m1 104)) (gO (rJ (m 104)) (rC (m 104)) (rBu m) (iM_ m x)) (rBu m) (rC (m 104)) := by
        have e105 : mm 104 = m 104 := rr 104 (by omega) (by omega) (by omega)
        have ge : ∀ j c : Int, 0 ≤ j → j < 8 → 0 ≤ c → c < 8 → gO (rJ (mm 104)) (rC (mm 104)) (rBu m) (mm 147) j c = gO (rJ (m 104)) (rC (m 104)) (rBu m) (iM_ m x) j c := fun j c j1 j2 c1 c2 => by
          rw [e105]
          exact gO_c j1 j2 c1 c2 rfl rfl rfl e148
        refine ⟨fun c _ _ => by rw [f1' 104 (by omega), e105], fun j c j1 j2 c1 c2 => by rw [(a1 j c j1 j2 c1 c2).1, ge j c j1 j2 c1 c2], fun j c j1 j2 c1 c2 hO => (a1 j c j1 j2 c1 c2).2 (by rw [← (a1 j c j1 j2 c1 c2).1]; exact hO)⟩
      have hBx := dy_B h (iM_ m x)
      refine q_least al hBx (by omega) (fun m2 f2 q2 r2 e2 => ?_)
      have q12 : rQt mm m2 := rQt_t ⟨fun q a b c => f1' q (by omega), fun j _ => by rw [f1' 103 (by omega)]⟩ q2
      have ev : (dpt 0 (gO (rJ (m 104)) (rC (m 104)) (rBu m) (iM_ m x)) (rBu m) (rC (m 104)) 8 0).1 = iV_ m x := rfl
      rw [ev]
      refine ⟨fun g => ?_, fun g => ?_⟩
      · have := hF ⟨x, by omega, g⟩ m2 (rQt_t q1 q12)
        exact this
      · have hT := dyF_get h (mk := iM_ m x) g
        have al2 : alk (rO (m2 128)) (rB (m2 128)) (rC (m2 104)) (gO (rJ (m 104)) (rC (m 104)) (rBu m) (iM_ m x)) (rBu m) (rC (m 104)) := by rw [f2 128 (by omega) (by omega), f2 104 (by omega) (by omega)]; exact al
        have hT2 := hT
        rw [← alk_bst al2 (Nat.le_refl 8) 0] at hT2
        have hmem := bst_m hT
        refine jK_deep (show 0 + 2 ≤ 319 by omega) (s_picks (i := 0) (alk_B (alk_s al2) hBx) r2 (by omega) hT2 (fun m3 f3 e3 => ?_))
        have hTe : dyF (rJ (m 104)) (rC (m 104)) (rBu m) (iM_ m x) = iT_ m x := rfl
        rw [hTe] at e3 hmem
        have q3 : rQt m m3 := rQt_t q1 (rQt_t q12 ⟨fun q a b c => f3 q (by omega), fun j _ => by rw [f3 103 (by omega)]⟩)
        have l81 : ∀ (k2 : Nat) (c : Int) (m4 : jM), 0 ≤ c → c + k2 = 8 → (∀ q, q ≠ 147 → m4 q = m3 q) → (∀ y : Int, 0 ≤ y → y < 64 → m4 147 y = if y % 8 < c ∧ (iT_ m x).getD (y % 8).toNat (-1) = y / 8 then 1 else iM_ m x y) → aX11_daysOf_81 319 n (w64 (iS_ m x + iV_ m x)) i c m4 Q := by
          intro k2
          induction k2 with
          | zero =>
            intro c m4 c0 ck f4 e4
            refine gX11_daysOf_81 319 n _ i c m4 Q ⟨fun q => by omega, fun _ => ?_⟩
            rw [w32_id (by omega) (by omega)]
            refine ih (x + 1) (i + 1) m4 (by omega) (by omega) (rQt_t q3 ⟨fun q a b c => f4 q (by omega), fun j _ => by rw [f4 103 (by omega)]⟩) (fun y y1 y2 => ?_) (fun y y1 y2 => ?_) (fun e he => ?_) (fun _ c' c1 c2 => ?_)
            · rw [f4 127 (by omega), f3 127 (by omega), f2 127 (by omega) (by omega), f1' 127 (by omega)]; exact e128 y y1 y2
            · rw [e4 y y1 y2]
              show _ = dyN (iM_ m x) (iT_ m x) y
              unfold dyN
              have : y % 8 < c := by omega
              simp only [this, true_and]
            · by_cases hex : e = x
              · rw [hex]; exact g
              · exact hv e (by omega)
            · rw [f4 131 (by omega)]
              exact e3 c' c1 c2
          | succ k2 ih2 =>
            intro c m4 c0 ck f4 e4
            have h132 : m4 131 c = (iT_ m x).getD c.toNat (-1) := by rw [f4 131 (by omega)]; exact e3 c c0 (by omega)
            refine gX11_daysOf_81 319 n _ i c m4 Q ⟨fun q => ⟨by omega, fun g5 => ?_, fun g5 => ?_⟩, fun q => by omega⟩
            · rw [w32_id (by omega) (by omega)]
              refine ih2 (c + 1) m4 (by omega) (by omega) f4 (fun y y1 y2 => ?_)
              rw [e4 y y1 y2]
              by_cases hx : y % 8 < c ∧ (iT_ m x).getD (y % 8).toNat (-1) = y / 8
              · rw [if_pos hx, if_pos ⟨by omega, hx.2⟩]
              · rw [if_neg hx, if_neg]
                rintro ⟨a, b⟩
                by_cases hy : y % 8 = c
                · rw [hy, ← h132, g5] at b; omega
                · exact hx ⟨by omega, b⟩
            · have hr2 : 0 ≤ m4 131 c ∧ m4 131 c < 8 := by
                rw [h132] at g5 ⊢
                rcases m8_at hmem c0 (show c < 8 by omega) with w | w
                · exact absurd w.2 g5
                · exact w.2.1
              have hw : w32 (w32 (8 * m4 131 c) + c) = 8 * m4 131 c + c := by rw [w32_id (z := 8 * m4 131 c) (by omega) (by omega), w32_id (by omega) (by omega)]
              rw [hw, w32_id (z := c + 1) (by omega) (by omega)]
              refine ⟨by omega, by omega, ih2 (c + 1) _ (by omega) (by omega) (fun q hq => by rw [up_ne hq]; exact f4 q hq) (fun y y1 y2 => ?_)⟩
              rw [up_eq, e4 y y1 y2]
              by_cases hx0 : y = 8 * m4 131 c + c
              · rw [if_pos hx0, if_pos]
                refine ⟨by omega, ?_⟩
                rw [show y % 8 = c by omega, ← h132]
                omega
              · rw [if_neg hx0]
                by_cases hx : y % 8 < c ∧ (iT_ m x).getD (y % 8).toNat (-1) = y / 8
                · rw [if_pos hx, if_pos ⟨by omega, hx.2⟩]
                · rw [if_neg hx, if_neg]
                  rintro ⟨a, b⟩
                  by_cases hy : y % 8 = c
                  · rw [hy, ← h132] at b; omega
                  · exact hx ⟨by omega, b⟩
        refine l81 8 0 m3 (by omega) (by omega) (fun _ _ => rfl) (fun y y1 y2 => ?_)
        rw [if_neg (by omega), f3 147 (by omega), f2 147 (by omega) (by omega), f1' 147 (by omega)]
        exact e148 y y1 y2
  refine jK_deep (show 319 + 1 ≤ d by omega) (gX11_daysOf 319 n m Q (jK_deep (show 0 + 306 ≤ 319 by omega) (s_tellsBurdens (Inv_rROk h) (Inv_tbd h).2 (fun m1 f1 f1' e1 => ?_))))
  have l6 : ∀ (k : Nat) (y : Int) (mm : jM), 0 ≤ y → y + k = 64 → (∀ q, q ≠ 147 → mm q = m1 q) → (∀ x : Int, 0 ≤ x → x < y → mm 147 x = m 107 x) → aX11_daysOf_6 319 n y mm Q := by
    intro k
    induction k with
    | zero =>
      intro y mm y0 yk f e
      refine gX11_daysOf_6 319 n y mm Q ⟨fun q => by omega, fun _ => ?_⟩
      refine l35 n.toNat 0 0 mm rfl (by omega) ⟨fun q a b c => by rw [f q (by omega)]; exact f1 q a (by omega), fun j hj => by rw [f 103 (by omega)]; exact f1' j (by omega)⟩ (fun x x1 x2 => by rw [f 127 (by omega)]; exact e1 x x1 x2) (fun x x1 x2 => ?_) (fun e he => by omega) (fun w => by omega)
      rw [e x x1 (by omega)]
      rfl
    | succ k ih =>
      intro y mm y0 yk f e
      refine gX11_daysOf_6 319 n y mm Q ⟨fun q => ⟨by omega, by omega, ?_⟩, fun q => by omega⟩
      rw [w32_id (by omega) (by omega)]
      refine ih (y + 1) _ (by omega) (by omega) (fun q hq => by rw [up_ne hq]; exact f q hq) (fun x x1 x2 => ?_)
      rw [up_eq]
      by_cases hx : x = y
      · rw [if_pos hx, f 107 (by omega), f1 107 (by omega) (by omega), hx]
      · rw [if_neg hx]; exact e x x1 (by omega)
  exact l6 64 0 m1 (by omega) (by omega) (fun _ _ => rfl) (fun x x1 x2 => by omega)
theorem q_days {d : Nat} {n : Int} {m : jM} {Q : Int → jM → Prop} (h : Inv m) (hd : 330 ≤ d) (hB : ¬ (1 ≤ n ∧ n ≤ 8) → Q (-4611686018427387904) m) (hQ : (1 ≤ n ∧ n ≤ 8) → ∀ m', rQt m m' → Q (vDs m n) m') : jK d zX11_days [jO 11 103, jI n] m Q := by
  refine jK_deep (show 329 + 1 ≤ d by omega) (gX11_days 329 n m Q (s_in ⟨fun g => ?_, fun g => ?_⟩))
  · rw [bI_0] at g; exact hB g
  · rw [bI_0, Classical.not_not] at g
    refine q_daysOf h (by omega) g (fun w m1 q1 => s_toldOr ?_) (fun w m1 q1 _ => s_toldOr ?_)
    · have := hQ g m1 q1
      unfold vDs at this
      rw [if_pos (bP_t.mpr w)] at this
      rw [toN_F]
      exact this
    · have := hQ g m1 q1
      unfold vDs at this
      rw [if_neg (fun x => w (bP_t.mp x))] at this
      have b := iS_r h n.toNat (fun e he x => w ⟨e, by omega, x⟩) (by omega)
      rw [toN_n (by unfold dpF; omega)]
      exact this
theorem q_day {d : Nat} {n c : Int} {m : jM} {Q : Int → jM → Prop} (h : Inv m) (hd : 330 ≤ d) (hB : ¬ ((0 ≤ n ∧ n ≤ 7) ∧ 0 ≤ c ∧ c ≤ 7) → Q (-2) m) (hQ : ((0 ≤ n ∧ n ≤ 7) ∧ 0 ≤ c ∧ c ≤ 7) → ∀ m', rQt m m' → Q (vDy m n c) m') : jK d zX11_day [jO 11 103, jI n, jI c] m Q := by
  refine jK_deep (show 329 + 1 ≤ d by omega) (gX11_day 329 n c m Q (s_in ⟨fun g => ?_, fun g => s_in ⟨fun g2 => ?_, fun g2 => ?_⟩⟩))
  · rw [bI_0] at g; exact hB (fun x => g x.1)
  · rw [bI_0] at g2; exact hB (fun x => g2 x.2)
  · rw [bI_0, Classical.not_not] at g g2
    rw [w32_id (z := n + 1) (by omega) (by omega)]
    refine q_daysOf h (by omega) (by omega) (fun w m1 q1 => ?_) (fun w m1 q1 e1 => ?_)
    · have := hQ ⟨g, g2⟩ m1 q1
      unfold vDy at this
      rw [if_pos (bP_t.mpr w)] at this
      exact ⟨fun _ => this, fun x => absurd rfl x⟩
    · have := hQ ⟨g, g2⟩ m1 q1
      unfold vDy at this
      rw [if_neg (fun x => w (bP_t.mp x))] at this
      have b := iS_r h (n + 1).toNat (fun e he x => w ⟨e, by omega, x⟩) (by omega)
      refine ⟨fun x => by omega, fun _ => ⟨by omega, ?_⟩⟩
      rw [e1 c g2.1 (by omega), show (n + 1 - 1).toNat = n.toNat by omega]
      exact this
